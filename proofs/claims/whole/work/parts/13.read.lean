/-! THE CLASS READ: what its rows, sounds and laws tell. -/
abbrev Lw : Type := Nat × (Int → Int) × (Int → Int) × (Int → Bool) × List (List Int) × List (Int × Int) × (Nat → Int)
/-- how many sounds; a sound's letter (0 .. 25), how open it is, whether it is a peak; the openings told; the glides; the numbers: 0 rise, 1 most of closings, 2 fall, 3 short, 4 long, 5 closing, 6 heavy from, 7 stress back, 8 window, 9 help, 10 move -/
def Ln (L : Lw) : Nat := L.1
def Llt (L : Lw) : Int → Int := L.2.1
def Lop (L : Lw) : Int → Int := L.2.2.1
def Lpk (L : Lw) : Int → Bool := L.2.2.2.1
def Ltd (L : Lw) : List (List Int) := L.2.2.2.2.1
def Lgl (L : Lw) : List (Int × Int) := L.2.2.2.2.2.1
def Lz (L : Lw) : Nat → Int := L.2.2.2.2.2.2
def b2i (b : Bool) : Int := if b = true then 1 else 0
def onr (L : Lw) (s : Int) : Prop := 0 ≤ s ∧ s < Ln L
def opn (L : Lw) (s : Int) : Int := if 0 ≤ s ∧ s < Ln L then Lop L s else -1
def pkn (L : Lw) (s : Int) : Bool := decide (0 ≤ s ∧ s < Ln L) && Lpk L s
def gi (l : List Int) (i : Int) : Int := if 0 ≤ i then l.getD i.toNat (-1) else -1
def onl (L : Lw) (l : List Int) : Prop := ∀ s ∈ l, 0 ≤ s ∧ s < Ln L
def WfS (L : Lw) : Prop := Ln L ≤ 16 ∧ (∀ s, 0 ≤ s → s < Ln L → 0 ≤ Llt L s ∧ Llt L s < 26 ∧ 0 ≤ Lop L s ∧ Lop L s ≤ 9) ∧ ∀ s t, 0 ≤ s → s < t → t < Ln L → Llt L s ≠ Llt L t
def WfT (L : Lw) : Prop := (Ltd L).length ≤ 12 ∧ (∀ l ∈ Ltd L, 2 ≤ l.length ∧ l.length ≤ 4 ∧ ∀ s ∈ l, 0 ≤ s ∧ s < Ln L ∧ Lpk L s = false) ∧ (Lgl L).length ≤ 6 ∧ ∀ g ∈ Lgl L, 0 ≤ g.1 ∧ g.1 < Ln L ∧ 0 ≤ g.2 ∧ g.2 < Ln L ∧ Lpk L g.1 = true ∧ Lpk L g.2 = true
def WfZ (L : Lw) : Prop := (-1 ≤ Lz L 0 ∧ Lz L 0 ≤ 9) ∧ (0 ≤ Lz L 1 ∧ Lz L 1 ≤ 4) ∧ (0 ≤ Lz L 2 ∧ Lz L 2 ≤ 9) ∧ (0 ≤ Lz L 3 ∧ Lz L 3 ≤ 9) ∧ (0 ≤ Lz L 4 ∧ Lz L 4 ≤ 9) ∧ (0 ≤ Lz L 5 ∧ Lz L 5 ≤ 9) ∧ (1 ≤ Lz L 6 ∧ Lz L 6 ≤ 99) ∧ (1 ≤ Lz L 7 ∧ Lz L 7 ≤ 4) ∧ (0 ≤ Lz L 8 ∧ Lz L 8 ≤ 9) ∧ (Lz L 9 = -1 ∨ (0 ≤ Lz L 9 ∧ Lz L 9 < Ln L ∧ Lpk L (Lz L 9) = true)) ∧ (0 ≤ Lz L 10 ∧ Lz L 10 ≤ 4)
def Wf (L : Lw) : Prop := WfS L ∧ WfT L ∧ WfZ L
/-! where it lies -/
def RowC (r : Int) : Prop := 0 < r ∧ shA SH r = (5, 3) ∧ shA SH (r + 1) = (20, 12)
def RowIs (M : Mem) (r : Int) (l : List Int) : Prop := RowC r ∧ M r 0 = r + 1 ∧ M r 1 = l.length ∧ l.length ≤ 12 ∧ dg l ∧ ∀ i : Nat, i < l.length → M (r + 1) i = l.getD i (-1)
def LwC (p : Int) : Prop := p = 96 ∨ p = 150
def PtrL (M : Mem) (p : Int) : Prop := M p 0 = p + 1 ∧ M p 1 = p + 8 ∧ M p 2 = p + 51 ∧ M p 3 = p + 52 ∧ M p 4 = p + 53 ∧ M (p + 1) 0 = p + 2 ∧ M (p + 1) 1 = p + 3 ∧ M (p + 1) 2 = p + 4 ∧ M (p + 1) 3 = p + 5 ∧ M (p + 1) 4 = p + 6 ∧ M (p + 1) 5 = p + 7 ∧ M (p + 8) 0 = p + 10 ∧ M (p + 8) 1 = p + 9
def ShL (p : Int) : Prop := 0 < p ∧ shA SH p = (2, 18) ∧ shA SH (p + 1) = (6, 7) ∧ shA SH (p + 2) = (20, 16) ∧ shA SH (p + 3) = (20, 16) ∧ shA SH (p + 4) = (22, 16) ∧ shA SH (p + 5) = (20, 13) ∧ shA SH (p + 6) = (20, 16) ∧ shA SH (p + 7) = (20, 16) ∧ shA SH (p + 8) = (10, 3) ∧ shA SH (p + 9) = (20, 13) ∧ shA SH (p + 10) = (24, 20) ∧ shA SH (p + 51) = (23, 12) ∧ shA SH (p + 52) = (20, 6) ∧ shA SH (p + 53) = (20, 6)
theorem shL {p : Int} (h : LwC p) : ShL p := by
  unfold ShL
  rcases h with rfl | rfl <;> decide +kernel
def SndIs (M : Mem) (p : Int) (L : Lw) : Prop := M (p + 1) 6 = Ln L ∧ ∀ s, 0 ≤ s → s < Ln L → M (p + 2) s = Llt L s + 97 ∧ M (p + 3) s = Lop L s ∧ M (p + 4) s = b2i (Lpk L s)
def TldIs (M : Mem) (p : Int) (L : Lw) : Prop := M p 5 = (Ltd L).length ∧ (∀ i : Nat, i < (Ltd L).length → M (p + 51) i = keyOf ((Ltd L).getD i [])) ∧ M p 6 = (Lgl L).length ∧ ∀ i : Nat, i < (Lgl L).length → M (p + 52) i = 16 * ((Lgl L).getD i (0, 0)).1 + ((Lgl L).getD i (0, 0)).2
def NumIs (M : Mem) (p : Int) (L : Lw) : Prop := M p 7 = Lz L 0 ∧ M p 8 = Lz L 1 ∧ M p 9 = Lz L 2 ∧ M p 10 = Lz L 3 ∧ M p 11 = Lz L 4 ∧ M p 12 = Lz L 5 ∧ M p 13 = Lz L 6 ∧ M p 14 = Lz L 7 ∧ M p 15 = Lz L 8 ∧ M p 16 = Lz L 9 ∧ M p 17 = Lz L 10
def LawIs (M : Mem) (p : Int) (L : Lw) : Prop := LwC p ∧ PtrL M p ∧ SndIs M p L ∧ TldIs M p L ∧ NumIs M p L ∧ Wf L
theorem gi_nat {l : List Int} {i : Nat} : gi l i = l.getD i (-1) := by
  unfold gi
  rw [if_pos (by omega), Int.toNat_natCast]
theorem gi_out {l : List Int} {i : Int} (h : i < 0 ∨ (l.length : Int) ≤ i) : gi l i = -1 := by
  unfold gi
  split
  · rw [List.getD_eq_getElem?_getD, List.getElem?_eq_none (by omega)]
    rfl
  · rfl
theorem RowIs.at {M : Mem} {r : Int} {l : List Int} (h : RowIs M r l) {i : Int} (h0 : 0 ≤ i) (h1 : i < l.length) : M (r + 1) i = gi l i := by
  obtain ⟨n, rfl⟩ := Int.eq_ofNat_of_zero_le h0
  rw [gi_nat]
  exact h.2.2.2.2.2 n (by omega)
theorem gi_dg {l : List Int} (h : dg l) {i : Int} (h0 : 0 ≤ i) (h1 : i < l.length) : 0 ≤ gi l i ∧ gi l i < 16 := by
  obtain ⟨n, rfl⟩ := Int.eq_ofNat_of_zero_le h0
  rw [gi_nat, List.getD_eq_getElem?_getD, List.getElem?_eq_getElem (by omega)]
  exact h _ (List.getElem_mem _)
theorem gi_dg' {l : List Int} (h : dg l) (i : Int) : -1 ≤ gi l i ∧ gi l i < 16 := by
  by_cases h0 : 0 ≤ i ∧ i < l.length
  · have := gi_dg h h0.1 h0.2
    omega
  · rw [gi_out (by omega)]
    omega
section RD
variable {M : Mem} {r p i s : Int} {l : List Int} {L : Lw}
theorem s82 {Q : Int → Mem → Prop} (hr : RowIs M r l) (hi : inR i) : WI 82 [vR r, vI i] M Q = Q (gi l i) M := by
  have hat := @RowIs.at M r l hr i
  have hout := @gi_out l i
  obtain ⟨hc, h0, h1, h2, h3, h4⟩ := hr
  refine FN.wi (WC.fn (t_82 ⟨hc.1, by rw [hc.2.1]⟩ ?_))
  have hp := hc.1
  simp only [h0, h1, hc.2.2, gA, gO, true_and, and_true]
  repeat' first | (refine ⟨by omega, ?_⟩) | split
  · rw [hout (by omega)]
  · rw [hout (by omega)]
  · exfalso; omega
  · rw [hat (by omega) (by omega)]
end RD
