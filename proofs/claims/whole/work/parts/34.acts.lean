/-! ACTS, by the class. -/
abbrev En : Type := Int × Int × Int × List Int
def eg (E : List En) (j : Nat) : En := E.getD j (0, 0, 0, [])
theorem eg_app {A B : List En} {i : Nat} : eg (A ++ B) i = if i < A.length then eg A i else eg B (i - A.length) := by
  unfold eg
  rw [List.getD_eq_getElem?_getD, List.getD_eq_getElem?_getD, List.getD_eq_getElem?_getD]
  by_cases h : i < A.length
  · rw [if_pos h, List.getElem?_append_left h]
  · rw [if_neg h, List.getElem?_append_right (by omega)]
theorem eg_tail {E : List En} {i : Nat} : eg E.tail i = eg E (i + 1) := by
  cases E with
  | nil => rfl
  | cons a r => rfl
/-- one entry as it lies there -/
def EnIs (M : Mem) (L : Lw) (j : Int) (e : En) : Prop := M 68 j = e.1 ∧ M 69 j = e.2.1 ∧ M 70 j = e.2.2.1 ∧ (e.1 = 1 → RowK M L (M 71 j) e.2.2.2)
def PtrA (M : Mem) : Prop := M 67 0 = 68 ∧ M 67 1 = 69 ∧ M 67 2 = 70 ∧ M 67 3 = 71
def ActC (M : Mem) (L : Lw) (E : List En) : Prop := PtrA M ∧ (M 67 4 = E.length ∧ E.length ≤ 12) ∧ (∀ j : Nat, j < E.length → EnIs M L j (eg E j)) ∧ RPt M 71 12 72 94
def pushE (E : List En) (e : En) : List En := (if E.length < 12 then E else E.tail) ++ [e]
theorem shA67 : gO 0 67 ∧ shA SH 68 = (20, 12) ∧ shA SH 69 = (20, 12) ∧ shA SH 70 = (20, 12) ∧ shA SH 71 = (24, 12) := ⟨⟨by decide, by decide +kernel⟩, by decide +kernel, by decide +kernel, by decide +kernel, by decide +kernel⟩
theorem RowC.no {r a : Int} {k n : Nat} (h : RowC r) (hz : shA SH a = (k, n)) (hk : k ≠ 5) (hk2 : (k, n) ≠ (20, 12)) : r ≠ a ∧ r + 1 ≠ a := ⟨fun e => by
  have := h.2.1
  rw [e, hz] at this
  exact hk (Prod.mk.inj this).1, fun e => by
  have := h.2.2
  rw [e, hz] at this
  exact hk2 this⟩
/-- what acts are written into -/
def FrA (M M' : Mem) : Prop := (∀ k : Int, k < 67 ∨ 95 < k → M' k = M k) ∧ ∀ j : Int, j ≠ 4 → M' 67 j = M 67 j
theorem FrA.rf {M : Mem} : FrA M M := ⟨fun _ _ => rfl, fun _ _ => rfl⟩
theorem FrA.tr {M M1 M2 : Mem} (h : FrA M M1) (g : FrA M1 M2) : FrA M M2 := ⟨fun k a => (g.1 k a).trans (h.1 k a), fun j a => (g.2 j a).trans (h.2 j a)⟩
section AC
variable {M : Mem} {r i : Int} {L : Lw} {l : List Int} {E : List En} {e : En}
theorem PtrA.fr {M' : Mem} (h : PtrA M) (g : FrA M M') : PtrA M' := ⟨by rw [g.2 0 (by decide)]; exact h.1, by rw [g.2 1 (by decide)]; exact h.2.1, by rw [g.2 2 (by decide)]; exact h.2.2.1, by rw [g.2 3 (by decide)]; exact h.2.2.2⟩
theorem acG {j : Int} (a : 0 ≤ j) (b : j < 12) : gA 20 68 j ∧ gA 20 69 j ∧ gA 20 70 j ∧ gA 24 71 j := by
  obtain ⟨-, z1, z2, z3, z4⟩ := shA67
  exact ⟨gC z1 a b, gC z2 a b, gC z3 a b, ⟨by rw [z4], a, by rw [z4]; exact b⟩⟩
/-- a row of acts is none of the arrays -/
theorem actR {r : Int} (h : RowC r) (hl : 72 ≤ r ∧ r ≤ 94) : r ≠ 67 ∧ r + 1 ≠ 67 ∧ r ≠ 68 ∧ r + 1 ≠ 68 ∧ r ≠ 69 ∧ r + 1 ≠ 69 ∧ r ≠ 70 ∧ r + 1 ≠ 70 ∧ r ≠ 71 ∧ r + 1 ≠ 71 := by omega
theorem s3 {Q : Mem → Prop} (h : ActC M L E) (hf : E.length = 12) (hQ : ∀ M' : Mem, FrA M M' → (∀ k : Int, 72 ≤ k → M' k = M k) → ActC M' L E.tail → Q M') : WV 3 [vR 67] M Q := by
  obtain ⟨⟨p0, p1, p2, p3⟩, ⟨h4, -⟩, he, hr⟩ := h
  have o0 := shA67.1
  obtain ⟨c0, q0, lo0, hi0⟩ := hr.1 0 (by decide) (by decide)
  have key : ∀ (t j : Nat) (N : Mem), j + t = 12 → 1 ≤ j → (∀ k : Int, k < 68 ∨ 71 < k → N k = M k) → (∀ x : Int, 0 ≤ x → x < 12 → (N 68 x = if x + 1 < j then M 68 (x + 1) else M 68 x) ∧ (N 69 x = if x + 1 < j then M 69 (x + 1) else M 69 x) ∧ (N 70 x = if x + 1 < j then M 70 (x + 1) else M 70 x) ∧ (N 71 x = if x + 1 < j then M 71 (x + 1) else M 71 x)) → WR 3 9 [some (vR 67), some (vR (M 71 0)), some (vI j)] [] N (fun _ M' => Q M') := by
    intro t
    induction t with
    | zero =>
      intro j N hj h1 g hk
      have e67 : N 67 = M 67 := g 67 (by decide)
      refine t_3_9 o0 ⟨by omega, ?_⟩
      rw [if_pos (by omega), e67, p3]
      refine ⟨⟨(acG (by decide) (by decide)).2.2.2, ⟨c0.1, by rw [c0.2.1]⟩⟩, ?_⟩
      have oth : ∀ k : Int, k < 67 ∨ 71 < k → upM (upM N 71 11 (M 71 0)) 67 4 11 k = M k := fun k a => by rw [upM_o (by omega), upM_o (by omega)]; exact g k (by omega)
      have f67 : ∀ j : Int, j ≠ 4 → upM (upM N 71 11 (M 71 0)) 67 4 11 67 j = M 67 j := fun j a => by rw [upM_f a, upM_o (by decide), e67]
      have arr : ∀ x : Int, 0 ≤ x → x < 12 → upM (upM N 71 11 (M 71 0)) 67 4 11 71 x = if x = 11 then M 71 0 else M 71 (x + 1) := fun x a b => by
        rw [upM_o (by decide)]
        by_cases z : x = 11
        · rw [if_pos z, z, upM_s]
        · rw [if_neg z, upM_f z, (hk x a b).2.2.2, if_pos (by omega)]
      have lt : E.tail.length = 11 := by rw [List.length_tail, hf]
      refine hQ _ ⟨fun k a => oth k (by omega), f67⟩ (fun k a => oth k (by omega)) ⟨⟨by rw [f67 0 (by decide)]; exact p0, by rw [f67 1 (by decide)]; exact p1, by rw [f67 2 (by decide)]; exact p2, by rw [f67 3 (by decide)]; exact p3⟩, ⟨by rw [upM_s, lt]; rfl, by omega⟩, fun x hx => ?_, fun x a b => ?_, fun x y a b d => ?_⟩
      · obtain ⟨e1, e2, e3, e4⟩ := he (x + 1) (by omega)
        obtain ⟨k1, k2, k3, k4⟩ := hk x (by omega) (by omega)
        obtain ⟨cr, -, lo, hi⟩ := hr.1 ((x : Int) + 1) (by omega) (by omega)
        rw [show ((x + 1 : Nat) : Int) = (x : Int) + 1 from rfl] at e1 e2 e3 e4
        rw [if_pos (by omega)] at k1 k2 k3
        unfold EnIs
        rw [eg_tail, arr x (by omega) (by omega), if_neg (by omega)]
        refine ⟨by rw [upM_o (by decide), upM_o (by decide), k1]; exact e1, by rw [upM_o (by decide), upM_o (by decide), k2]; exact e2, by rw [upM_o (by decide), upM_o (by decide), k3]; exact e3, fun z => ?_⟩
        have := e4 z
        exact ⟨this.1.fr (oth _ (by omega)) (oth _ (by omega)), by rw [oth _ (by omega)]; exact this.2⟩
      · rw [arr x a b]
        by_cases z : x = 11
        · rw [if_pos z]
          exact ⟨c0, by rw [oth _ (by omega)]; exact q0, lo0, hi0⟩
        · rw [if_neg z]
          obtain ⟨cr, qr, lo, hi⟩ := hr.1 (x + 1) (by omega) (by omega)
          exact ⟨cr, by rw [oth _ (by omega)]; exact qr, lo, hi⟩
      · rw [arr x a (by omega), arr y (by omega) d, if_neg (by omega)]
        by_cases z : y = 11
        · rw [if_pos z]; exact hr.ne (by omega) (by omega) (by decide) (by decide) (by omega)
        · rw [if_neg z]; exact hr.ne (by omega) (by omega) (by omega) (by omega) (by omega)
    | succ t ih =>
      intro j N hj h1 g hk
      have e67 : N 67 = M 67 := g 67 (by decide)
      obtain ⟨k1, k2, k3, k4⟩ := hk j (by omega) (by omega)
      rw [if_neg (by omega)] at k1 k2 k3 k4
      obtain ⟨cr, qr, lo, hi⟩ := hr.1 (j : Int) (by omega) (by omega)
      obtain ⟨ga, gb, gc, gd⟩ := acG (j := (j : Int)) (by omega) (by omega)
      obtain ⟨ha, hb, hc, hd⟩ := acG (j := (j : Int) - 1) (by omega) (by omega)
      refine t_3_9 o0 ⟨by omega, ?_⟩
      rw [if_neg (by omega), e67, p0]
      have b1 : ∀ v, upM N 68 ((j : Int) - 1) v 67 = M 67 := fun v => by rw [upM_o (by decide)]; exact e67
      have b2 : ∀ v, upM N 68 ((j : Int) - 1) v 69 = N 69 := fun v => upM_o (by decide)
      have b3 : ∀ v, upM N 68 ((j : Int) - 1) v 70 = N 70 := fun v => upM_o (by decide)
      have b4 : ∀ v, upM N 68 ((j : Int) - 1) v 71 = N 71 := fun v => upM_o (by decide)
      rw [k1, b1, p1, b2, k2]
      have d1 : ∀ (X : Mem) v, upM X 69 ((j : Int) - 1) v 67 = X 67 := fun X v => upM_o (by decide)
      have d2 : ∀ (X : Mem) v, upM X 69 ((j : Int) - 1) v 70 = X 70 := fun X v => upM_o (by decide)
      have d3 : ∀ (X : Mem) v, upM X 69 ((j : Int) - 1) v 71 = X 71 := fun X v => upM_o (by decide)
      rw [d1, b1, p2, d2, b3, k3]
      have f1 : ∀ (X : Mem) v, upM X 70 ((j : Int) - 1) v 67 = X 67 := fun X v => upM_o (by decide)
      have f2 : ∀ (X : Mem) v, upM X 70 ((j : Int) - 1) v 71 = X 71 := fun X v => upM_o (by decide)
      rw [f1, d1, b1, p3, f2, d3, b4, k4]
      refine ⟨ga, ha, gb, hb, gc, hc, Or.inl gd, ⟨hd, ⟨cr.1, by rw [cr.2.1]⟩⟩, ih (j + 1) _ (by omega) (by omega) (fun k a => by rw [upM_o (by omega), upM_o (by omega), upM_o (by omega), upM_o (by omega)]; exact g k a) (fun x a b => ?_)⟩
      obtain ⟨x1, x2, x3, x4⟩ := hk x a b
      by_cases z : x = (j : Int) - 1
      · rw [z]
        refine ⟨?_, ?_, ?_, ?_⟩
        · rw [upM_o (by decide), upM_o (by decide), upM_o (by decide), upM_s, if_pos (by omega), show (j : Int) - 1 + 1 = j by omega]
        · rw [upM_o (by decide), upM_o (by decide), upM_s, if_pos (by omega), show (j : Int) - 1 + 1 = j by omega]
        · rw [upM_o (by decide), upM_s, if_pos (by omega), show (j : Int) - 1 + 1 = j by omega]
        · rw [upM_s, if_pos (by omega), show (j : Int) - 1 + 1 = j by omega]
      · have e : (x + 1 < ((j + 1 : Nat) : Int)) ↔ (x + 1 < (j : Int)) := by omega
        refine ⟨?_, ?_, ?_, ?_⟩
        · rw [upM_o (by decide), upM_o (by decide), upM_o (by decide), upM_f z, x1]
          by_cases y : x + 1 < (j : Int)
          · rw [if_pos y, if_pos (by omega)]
          · rw [if_neg y, if_neg (by omega)]
        · rw [upM_o (by decide), upM_o (by decide), upM_f z, upM_o (by decide), x2]
          by_cases y : x + 1 < (j : Int)
          · rw [if_pos y, if_pos (by omega)]
          · rw [if_neg y, if_neg (by omega)]
        · rw [upM_o (by decide), upM_f z, upM_o (by decide), upM_o (by decide), x3]
          by_cases y : x + 1 < (j : Int)
          · rw [if_pos y, if_pos (by omega)]
          · rw [if_neg y, if_neg (by omega)]
        · rw [upM_f z, upM_o (by decide), upM_o (by decide), upM_o (by decide), x4]
          by_cases y : x + 1 < (j : Int)
          · rw [if_pos y, if_pos (by omega)]
          · rw [if_neg y, if_neg (by omega)]
  refine t_3 o0 ?_
  rw [p3]
  exact ⟨Or.inl (acG (by decide) (by decide)).2.2.2, key 11 1 M (by omega) (by omega) (fun _ _ => rfl) (fun x a b => by rw [if_neg (by omega), if_neg (by omega), if_neg (by omega), if_neg (by omega)]; exact ⟨rfl, rfl, rfl, rfl⟩)⟩
theorem s2 {Q : Mem → Prop} (h : ActC M L E) (hr0 : (r = 0 ∧ e.1 ≠ 1) ∨ (RowK M L r e.2.2.2 ∧ (r < 67 ∨ 95 < r))) (hQ : ∀ M' : Mem, FrA M M' → ActC M' L (pushE E e) → Q M') : WV 2 [vR 67, vI e.1, vI e.2.1, vI e.2.2.1, vR r] M Q := by
  have o0 := shA67.1
  -- with room
  have room : ∀ (N : Mem) (F : List En), ActC N L F → F.length < 12 → ((r = 0 ∧ e.1 ≠ 1) ∨ (RowK N L r e.2.2.2 ∧ (r < 67 ∨ 95 < r))) → (∀ M' : Mem, FrA N M' → ActC M' L (F ++ [e]) → Q M') → ∀ (N2 : Mem), N2 = upM (upM (upM N 68 F.length e.1) 69 F.length e.2.1) 70 F.length e.2.2.1 → (r = 0 → Q (upM N2 67 4 ((F.length : Int) + 1))) ∧ (¬ r = 0 → WV 81 [vR (N 71 F.length), vR r] N2 (fun M2 => Q (upM M2 67 4 ((M2 67 4) + 1))) ∧ (shA SH (N 71 F.length)).1 = 5) ∧ N2 67 = N 67 ∧ N2 71 = N 71 := by
    intro N F hA hl hr1 hQ N2 eN
    obtain ⟨⟨p0, p1, p2, p3⟩, ⟨h4, -⟩, he, hr⟩ := hA
    have e67 : N2 67 = N 67 := by rw [eN, upM_o (by decide), upM_o (by decide), upM_o (by decide)]
    have e71 : N2 71 = N 71 := by rw [eN, upM_o (by decide), upM_o (by decide), upM_o (by decide)]
    have oth : ∀ k : Int, k < 68 ∨ 70 < k → N2 k = N k := fun k a => by rw [eN, upM_o (by omega), upM_o (by omega), upM_o (by omega)]
    obtain ⟨cF, qF, loF, hiF⟩ := hr.1 (F.length : Int) (by omega) (by omega)
    have v : ∀ j : Int, (N2 68 j = if j = F.length then e.1 else N 68 j) ∧ (N2 69 j = if j = F.length then e.2.1 else N 69 j) ∧ (N2 70 j = if j = F.length then e.2.2.1 else N 70 j) := fun j => by
      rw [eN]
      by_cases z : j = F.length
      · rw [if_pos z, if_pos z, if_pos z, z]
        exact ⟨by rw [upM_o (by decide), upM_o (by decide), upM_s], by rw [upM_o (by decide), upM_s], upM_s⟩
      · rw [if_neg z, if_neg z, if_neg z]
        exact ⟨by rw [upM_o (by decide), upM_o (by decide), upM_f z], by rw [upM_o (by decide), upM_f z, upM_o (by decide)], by rw [upM_f z, upM_o (by decide), upM_o (by decide)]⟩
    -- the end, from memory N3 that has the row too
    have fin : ∀ N3 : Mem, (∀ k : Int, k ≠ N 71 F.length → k ≠ N 71 F.length + 1 → N3 k = N2 k) → N3 (N 71 F.length) 0 = N2 (N 71 F.length) 0 → (e.1 = 1 → RowK N3 L (N 71 F.length) e.2.2.2) → Q (upM N3 67 4 ((F.length : Int) + 1)) := fun N3 g3 g30 hrow => by
      obtain ⟨r1, r2, r3, r4, r5, r6, r7, r8, r9, r10⟩ := actR cF ⟨loF, hiF⟩
      have f67 : N3 67 = N 67 := by rw [g3 67 (by omega) (by omega)]; exact e67
      have f68 : N3 68 = N2 68 := g3 68 (by omega) (by omega)
      have f69 : N3 69 = N2 69 := g3 69 (by omega) (by omega)
      have f70 : N3 70 = N2 70 := g3 70 (by omega) (by omega)
      have f71 : N3 71 = N 71 := by rw [g3 71 (by omega) (by omega)]; exact e71
      have up : ∀ k : Int, k ≠ 67 → upM N3 67 4 ((F.length : Int) + 1) k = N3 k := fun k a => upM_o a
      have u67 : ∀ j : Int, j ≠ 4 → upM N3 67 4 ((F.length : Int) + 1) 67 j = N 67 j := fun j a => by rw [upM_f a, f67]
      refine hQ _ ⟨fun k a => by rw [up k (by omega), g3 k (by omega) (by omega)]; exact oth k (by omega), u67⟩ ⟨⟨by rw [u67 0 (by decide)]; exact p0, by rw [u67 1 (by decide)]; exact p1, by rw [u67 2 (by decide)]; exact p2, by rw [u67 3 (by decide)]; exact p3⟩, ⟨by rw [upM_s, List.length_append]; rfl, by rw [List.length_append, List.length_singleton]; omega⟩, fun j hj => ?_, fun x a b => ?_, fun x y a b d => ?_⟩
      · rw [List.length_append, List.length_singleton] at hj
        unfold EnIs
        rw [up 68 (by decide), up 69 (by decide), up 70 (by decide), up 71 (by decide), f68, f69, f70, f71, (v j).1, (v j).2.1, (v j).2.2, eg_app]
        by_cases z : j = F.length
        · have zi : (j : Int) = F.length := by omega
          have zn : ¬ j < F.length := by omega
          rw [if_pos zi, if_pos zi, if_pos zi, if_neg zn, z, Nat.sub_self]
          refine ⟨rfl, rfl, rfl, fun y => ?_⟩
          have := hrow y
          exact ⟨this.1.fr (up _ r1) (up _ r2), by rw [up _ r1]; exact this.2⟩
        · have zi : ¬ (j : Int) = F.length := by omega
          have zn : j < F.length := by omega
          rw [if_neg zi, if_neg zi, if_neg zi, if_pos zn]
          obtain ⟨e1, e2, e3, e4⟩ := he j (by omega)
          refine ⟨e1, e2, e3, fun y => ?_⟩
          have := e4 y
          obtain ⟨cj, qj, loj, hij⟩ := hr.1 (j : Int) (by omega) (by omega)
          have ne := hr.ne (i := (j : Int)) (j := (F.length : Int)) (by omega) (by omega) (by omega) (by omega) (by omega)
          have x1 := cj.ne cF
          have x2 := cF.ne cj
          have t1 : upM N3 67 4 ((F.length : Int) + 1) (N 71 j) = N (N 71 j) := by rw [up _ (by omega), g3 _ ne x1]; exact oth _ (by omega)
          have t2 : upM N3 67 4 ((F.length : Int) + 1) (N 71 j + 1) = N (N 71 j + 1) := by rw [up _ (by omega), g3 _ (by omega) (by omega)]; exact oth _ (by omega)
          exact ⟨this.1.fr t1 t2, by rw [t1]; exact this.2⟩
      · rw [up 71 (by decide), f71]
        obtain ⟨cx, qx, lox, hix⟩ := hr.1 x a b
        refine ⟨cx, ?_, lox, hix⟩
        rw [up _ (by omega)]
        by_cases z : x = F.length
        · rw [z, g30, oth _ (by omega)]; exact qF
        · have ne := hr.ne (i := x) (j := (F.length : Int)) a b (by omega) (by omega) z
          rw [g3 _ ne (cx.ne cF), oth _ (by omega)]; exact qx
      · rw [up 71 (by decide), f71]
        exact hr.2 x y a b d
    refine ⟨fun z => ?_, fun z => ?_, e67, e71⟩
    · rcases hr1 with y | y
      · exact fin N2 (fun _ _ _ => rfl) rfl (fun x => absurd x y.2)
      · have := y.1.1.1.1; omega
    · rcases hr1 with y | y
      · exact absurd y.1 z
      · have rK : RowK N2 L r e.2.2.2 := ⟨y.1.1.fr (oth _ (by omega)) (oth _ (by omega)), by rw [oth _ (by omega)]; exact y.1.2⟩
        refine ⟨s81 cF (by rw [oth _ (by omega)]; exact qF) rK (by omega) (fun N3 g3 g30 hrow => ?_), by rw [cF.2.1]⟩
        have e674 : N3 67 4 = F.length := by
          rw [g3 67 (by omega) (by omega), e67]; exact h4
        rw [e674]
        exact fin N3 g3 g30 (fun _ => hrow)
  obtain ⟨⟨p0, p1, p2, p3⟩, ⟨h4, h12⟩, he, hr⟩ := h
  have rr : r ≠ -1000 := by
    rcases hr0 with y | y
    · omega
    · have := y.1.1.1.1; omega
  refine t_2 o0 ?_
  rw [h4]
  refine ⟨by omega, ?_⟩
  have n1 : (67 : Int) ≠ 68 := by decide
  have n2 : (67 : Int) ≠ 69 := by decide
  have n3 : (67 : Int) ≠ 70 := by decide
  by_cases full : E.length < 12
  · have eE : pushE E e = E ++ [e] := by unfold pushE; rw [if_pos full]
    rw [eE] at hQ
    obtain ⟨a1, a2, a3, a4⟩ := room M E ⟨⟨p0, p1, p2, p3⟩, ⟨h4, h12⟩, he, hr⟩ full hr0 hQ _ rfl
    obtain ⟨ga, gb, gc, gd⟩ := acG (j := (E.length : Int)) (by omega) (by omega)
    rw [if_pos (by omega)]
    simp only [p0, p1, p2, p3, h4, upM_o n1, upM_o n2, upM_o n3]
    refine ⟨ga, gb, gc, rr, ?_⟩
    by_cases z : r = 0
    · rw [if_pos z]
      exact a1 z
    · rw [if_neg z]
      rw [a4]
      exact ⟨Or.inl gd, (a2 z).2, (a2 z).1⟩
  · have eE : pushE E e = E.tail ++ [e] := by unfold pushE; rw [if_neg full]
    rw [eE] at hQ
    rw [if_neg (by omega)]
    refine s3 ⟨⟨p0, p1, p2, p3⟩, ⟨h4, h12⟩, he, hr⟩ (by omega) (fun M1 g1 gr hA1 => ?_)
    have lt : E.tail.length = 11 := by rw [List.length_tail]; omega
    have hr1 : (r = 0 ∧ e.1 ≠ 1) ∨ (RowK M1 L r e.2.2.2 ∧ (r < 67 ∨ 95 < r)) := by
      rcases hr0 with y | y
      · exact Or.inl y
      · have rp := y.1.1.1
        have r66 : r + 1 < 67 ∨ 95 < r + 1 := by
          rcases y.2 with z | z
          · rcases Int.lt_or_eq_of_le (show r + 1 ≤ 67 by omega) with w | w
            · exact Or.inl w
            · exfalso
              have := rp.2.2
              rw [w] at this
              exact absurd this (by decide +kernel)
          · omega
        exact Or.inr ⟨⟨y.1.1.fr (g1.1 _ (by omega)) (g1.1 _ r66), by rw [g1.1 _ (by omega)]; exact y.1.2⟩, y.2⟩
    obtain ⟨a1, a2, a3, a4⟩ := room M1 E.tail hA1 (by omega) hr1 (fun M' g hA => hQ M' (g1.tr g) hA) _ rfl
    obtain ⟨⟨q0, q1, q2, q3⟩, ⟨k4, -⟩, -, -⟩ := hA1
    obtain ⟨ga, gb, gc, gd⟩ := acG (j := (E.tail.length : Int)) (by omega) (by omega)
    simp only [q0, q1, q2, q3, k4, upM_o n1, upM_o n2, upM_o n3]
    refine ⟨ga, gb, gc, rr, ?_⟩
    by_cases z : r = 0
    · rw [if_pos z]
      exact a1 z
    · rw [if_neg z]
      rw [a4]
      exact ⟨Or.inl gd, (a2 z).2, (a2 z).1⟩
/-- behind takeLatest: the latest entry can still be read -/
theorem s5 {Q : Int → Mem → Prop} {n : Int} (h : M 67 4 = n) (hn : 0 ≤ n ∧ n < 12) : WI 5 [vR 67] M Q = Q 1 M := by
  refine FN.wi (WC.fn (t_5 shA67.1 ?_))
  rw [h, if_neg (by omega), if_neg (by omega)]
  exact ⟨by omega, rfl, rfl⟩
theorem s6 {Q : Int → Mem → Prop} {n : Int} (hp : PtrA M) (h : M 67 4 = n) (hn : 0 ≤ n ∧ n < 12) : (∀ Q : Int → Mem → Prop, WI 6 [vR 67] M Q = Q (M 68 n) M) ∧ (∀ Q : Int → Mem → Prop, WI 7 [vR 67] M Q = Q (M 69 n) M) ∧ (∀ Q : Int → Mem → Prop, WI 8 [vR 67] M Q = Q (M 70 n) M) ∧ (0 ≤ M 71 n → ∀ Q : Int → Mem → Prop, WF 9 [vR 67] M Q = Q (M 71 n) M) := by
  obtain ⟨ga, gb, gc, gd⟩ := acG hn.1 hn.2
  refine ⟨fun Q => FN.wi (WC.fn (t_6 shA67.1 ?_)), fun Q => FN.wi (WC.fn (t_7 shA67.1 ?_)), fun Q => FN.wi (WC.fn (t_8 shA67.1 ?_)), fun z Q => FN.wf (WC.fn (t_9 shA67.1 ?_))⟩
  · rw [s5 h hn, h, hp.1]
    exact ⟨by decide, by rw [if_neg (by decide)]; exact ⟨ga, rfl, rfl⟩⟩
  · rw [s5 h hn, h, hp.2.1]
    exact ⟨by decide, by rw [if_neg (by decide)]; exact ⟨gb, rfl, rfl⟩⟩
  · rw [s5 h hn, h, hp.2.2.1]
    exact ⟨by decide, by rw [if_neg (by decide)]; exact ⟨gc, rfl, rfl⟩⟩
  · rw [s5 h hn, h, hp.2.2.2]
    exact ⟨by decide, by rw [if_neg (by decide)]; exact ⟨Or.inl gd, z, rfl, rfl⟩⟩
end AC
