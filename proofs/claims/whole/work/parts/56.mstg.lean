/-! THE MODEL MAKES ITS TABLES: bits, and what the tables hold -/
/-- six flags in one number -/
def bits (s : Int → Bool) : Int := b2i (s 0) + 2 * b2i (s 1) + 4 * b2i (s 2) + 8 * b2i (s 3) + 16 * b2i (s 4) + 32 * b2i (s 5)
theorem bits_r (s : Int → Bool) : 0 ≤ bits s ∧ bits s ≤ 63 := by
  have h0 := b2i_r (s 0)
  have h1 := b2i_r (s 1)
  have h2 := b2i_r (s 2)
  have h3 := b2i_r (s 3)
  have h4 := b2i_r (s 4)
  have h5 := b2i_r (s 5)
  unfold bits
  omega
section MG
variable {M M' : Mem} {T : List Int} {t : Tk} {L : Lw} {g : Gs}
/-- the tables as the model holds them while it makes them -/
def StgS (M : Mem) (L : Lw) : Prop := M 204 14 = Ln L ∧ (∀ s : Int, 0 ≤ s → s < Ln L → M 208 s = Llt L s ∧ M 209 s = Lop L s ∧ M 210 s = b2i (Lpk L s)) ∧ ∀ c : Int, 0 ≤ c → c < 26 → M 207 c = numOf L (c + 97)
def StgT (M : Mem) (L : Lw) : Prop := M 204 15 = (Ltd L).length ∧ (∀ i : Nat, i < (Ltd L).length → M 212 i = ((Ltd L).getD i []).length ∧ SegIs M 211 (4 * i) ((Ltd L).getD i [])) ∧ M 204 16 = (Lgl L).length ∧ ∀ i : Nat, i < (Lgl L).length → M 213 (2 * i) = ((Lgl L).getD i (0, 0)).1 ∧ M 213 (2 * i + 1) = ((Lgl L).getD i (0, 0)).2
def StgZ (M : Mem) (L : Lw) : Prop := M 204 18 = Lz L 0 ∧ M 204 19 = Lz L 1 ∧ M 204 20 = Lz L 2 ∧ M 204 21 = Lz L 9 ∧ M 204 22 = Lz L 10 ∧ M 204 23 = Lz L 7 ∧ M 204 24 = Lz L 8 ∧ M 217 0 = Lz L 3 ∧ M 217 1 = Lz L 4 ∧ M 217 2 = Lz L 5 ∧ M 217 3 = Lz L 6
def StgW (M : Mem) (W : List (List Int)) : Prop := M 204 17 = W.length ∧ ∀ i : Nat, i < W.length → M 215 i = (W.getD i []).length ∧ SegIs M 214 (12 * i) (W.getD i [])
def Stg (M : Mem) (g : Gs) : Prop := StgS M g.1 ∧ StgT M g.1 ∧ StgZ M g.1 ∧ StgW M g.2.1 ∧ (∀ i : Int, 0 ≤ i → i < 6 → M 216 i = g.2.2.1 i) ∧ M 204 25 = bits g.2.2.2.1 ∧ M 204 26 = bits g.2.2.2.2 ∧ GsOk g
end MG
