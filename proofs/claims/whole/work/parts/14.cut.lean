/-! THE CUT: its mathematics, and what the class tells of one. -/
def sub (l : List Int) (a n : Int) : List Int := (l.drop a.toNat).take n.toNat
theorem sub_len {l : List Int} {a n : Int} (h0 : 0 ≤ a) (h1 : 0 ≤ n) (h2 : a + n ≤ l.length) : ((sub l a n).length : Int) = n := by
  unfold sub
  rw [List.length_take, List.length_drop]
  omega
theorem sub_mem {l : List Int} {a n s : Int} (h : s ∈ sub l a n) : s ∈ l := List.mem_of_mem_drop (List.mem_of_mem_take h)
theorem sub_dg {l : List Int} (h : dg l) (a n : Int) : dg (sub l a n) := fun s hs => h s (sub_mem hs)
theorem sub_0 (l : List Int) (a : Int) : sub l a 0 = [] := rfl
theorem sub_succ {l : List Int} {a n : Int} (h0 : 0 ≤ a) (h1 : 0 ≤ n) (h2 : a + n < l.length) : sub l a (n + 1) = sub l a n ++ [gi l (a + n)] := by
  unfold sub gi
  rw [show (n + 1).toNat = n.toNat + 1 by omega, List.take_add_one, List.getElem?_drop, if_pos (by omega), List.getD_eq_getElem?_getD, show (a + n).toNat = a.toNat + n.toNat by omega, List.getElem?_eq_getElem (by omega)]
  rfl
theorem sub_all (l : List Int) : sub l 0 l.length = l := by
  unfold sub
  simp
section RD
variable {M : Mem} {r p i s : Int} {l : List Int} {L : Lw} {W : List (List Int)}
theorem s83 {Q : Int → Mem → Prop} {a n : Int} (hr : RowIs M r l) (h0 : 0 ≤ a) (h1 : 0 ≤ n) (h2 : a + n ≤ l.length) : WL 83 [vR r, vI a, vI n] M Q = Q (keyOf (sub l a n)) M := by
  have hat := fun (i : Int) => @RowIs.at M r l hr i
  obtain ⟨hc, e0, e1, e2, hdg, -⟩ := hr
  have ho : gO 5 r := ⟨hc.1, by rw [hc.2.1]⟩
  have hp := hc.1
  have hs := hc.2.2
  clear hc
  have key : ∀ (k : Nat) (j : Int) (P : AV → Mem → Prop), 0 ≤ j → j + k = n → P (vL (keyOf (sub l a n))) M → WR 83 21 [some (vR r), some (vI a), some (vI n), some (vL (keyOf (sub l a j))), none, some (vI (a + n)), some (vI (a + j))] [] M P := by
    intro k
    induction k with
    | zero =>
      intro j P hj hk hP
      refine t_83_21 ho ?_
      refine ⟨by omega, by omega, ?_⟩
      rw [if_pos (by omega), show j = n by omega]
      exact hP
    | succ k ih =>
      intro j P hj hk hP
      have hg := gi_dg hdg (i := a + j) (by omega) (by omega)
      have hsub := sub_dg hdg a j
      have hlen := sub_len (l := l) h0 hj (by omega)
      have hk1 := key_pos hsub
      have hk2 := key_lt hsub (by omega)
      have hm := hat (a + j) (by omega) (by omega)
      refine t_83_21 ho ?_
      simp only [e0, hs, hm, gA, gO, true_and, and_true]
      refine ⟨by omega, by omega, ?_⟩
      rw [if_neg (by omega)]
      refine ⟨by omega, by omega, ?_⟩
      rw [if_neg (by omega), or64_key (by omega) hk2 hg.1 hg.2, ← keyOf_snoc, ← sub_succ h0 hj (by omega), show a + j + 1 = a + (j + 1) by omega]
      exact ⟨by omega, ih (j + 1) P (by omega) (by omega) hP⟩
  refine FN.wl (WC.fn (t_83 ho ?_))
  rw [e1, Int.min_eq_right h2, Int.max_eq_right h0]
  refine ⟨by omega, by omega, ?_⟩
  have := key n.toNat 0 (fun r N => r = vL (keyOf (sub l a n)) ∧ N = M) (by omega) (by omega) ⟨rfl, rfl⟩
  rw [Int.add_zero] at this
  exact this
end RD
/-- a word, its hearts (where, how long), how many closing sounds each gap has, how many sounds came, how many went, the word ahead -/
abbrev Ct : Type := List Int × List (Nat × Nat) × List Int × Int × Int × List Int
def Xl (X : Ct) : List Int := X.1
def Xn (X : Ct) : Int := (X.1.length : Int)
def cnt (X : Ct) : Int := (X.2.1.length : Int)
def Xg (X : Ct) (k : Int) : Int := gi X.2.2.1 k
def Xc (X : Ct) : Int := X.2.2.2.1
def Xw (X : Ct) : Int := X.2.2.2.2.1
def XA (X : Ct) : List Int := X.2.2.2.2.2
def hst (X : Ct) (k : Int) : Int := ((X.2.1.getD k.toNat (0, 0)).1 : Int)
def hsz (X : Ct) (k : Int) : Int := ((X.2.1.getD k.toNat (0, 0)).2 : Int)
def hen (X : Ct) (k : Int) : Int := hst X k + hsz X k
def beh (X : Ct) (k : Int) : Int := (if k + 1 < cnt X then hst X (k + 1) else Xn X) - hen X k
def cls (X : Ct) (k : Int) : Int := if k + 1 = cnt X then beh X k else Xg X k
def ofr (X : Ct) (k : Int) : Int := if k = 0 then -Xc X else hen X (k - 1) + cls X (k - 1)
def osz (X : Ct) (k : Int) : Int := hst X k - ofr X k
def csz (X : Ct) (k : Int) : Int := cls X k - (if k + 1 = cnt X then Xw X else 0)
def okl (X : Ct) (k : Int) : List Int := if k = 0 ∧ 0 < Xc X then sub (XA X) ((XA X).length - Xc X) (Xc X) else sub (Xl X) (ofr X k) (osz X k)
def ckl (X : Ct) (k : Int) : List Int := sub (Xl X) (hen X k) (csz X k)
def wgt (L : Lw) (X : Ct) (k : Int) : Int := (if hsz X k = 2 then Lz L 4 else Lz L 3) + csz X k * Lz L 5
def hvy (L : Lw) (X : Ct) (k : Int) : Bool := decide (Lz L 6 ≤ wgt L X k)
def cst (L : Lw) (W : List (List Int)) (c : Int → Int) (X : Ct) (k : Int) : Int := csz X k * c 1 + (if osz X k = 0 then c 0 else if kind L W (okl X k) = 4 then c 2 else if kind L W (okl X k) = 0 then c 3 else 0) + (if closes L (ckl X k) = true then 0 else c 4) + (if 0 < k ∧ hvy L X (k - 1) = true ∧ hvy L X k = true then c 5 else 0)
/-- a sum of so many, from a place on -/
def smF (f : Int → Int) : Int → Nat → Int
  | _, 0 => 0
  | i, k + 1 => f i + smF f (i + 1) k
def tot (L : Lw) (W : List (List Int)) (c : Int → Int) (X : Ct) : Int := smF (cst L W c X) 0 X.2.1.length
def HOk (X : Ct) : Prop := cnt X ≤ 12 ∧ Xn X ≤ 12 ∧ ∀ k : Int, 0 ≤ k → k < cnt X → 0 ≤ hst X k ∧ (hsz X k = 1 ∨ hsz X k = 2) ∧ hen X k ≤ Xn X ∧ (k + 1 < cnt X → hen X k ≤ hst X (k + 1))
def GOk (X : Ct) : Prop := (∀ k : Int, 0 ≤ k → k + 1 < cnt X → 0 ≤ Xg X k ∧ Xg X k ≤ beh X k) ∧ 0 ≤ Xc X ∧ Xc X ≤ 4 ∧ 0 ≤ Xw X ∧ (0 < cnt X → Xw X ≤ beh X (cnt X - 1)) ∧ Xc X ≤ (XA X).length ∧ (0 < Xc X → 0 < cnt X → hst X 0 = 0) ∧ dg (XA X) ∧ (XA X).length ≤ 12
theorem beh_r {X : Ct} (h : HOk X) {k : Int} (h0 : 0 ≤ k) (h1 : k < cnt X) : 0 ≤ beh X k ∧ beh X k ≤ 12 ∧ hen X k + beh X k ≤ Xn X := by
  unfold beh
  have a := h.2.2 k h0 h1
  have b := h.2.1
  by_cases h2 : k + 1 < cnt X
  · have c := h.2.2 (k + 1) (by omega) h2
    have d := a.2.2.2 h2
    have e : hen X (k + 1) = hst X (k + 1) + hsz X (k + 1) := rfl
    have f : hen X k = hst X k + hsz X k := rfl
    rw [if_pos h2]
    omega
  · have f : hen X k = hst X k + hsz X k := rfl
    rw [if_neg h2]
    omega
theorem cls_r {X : Ct} (h : HOk X) (g : GOk X) {k : Int} (h0 : 0 ≤ k) (h1 : k < cnt X) : 0 ≤ cls X k ∧ cls X k ≤ beh X k := by
  have b := beh_r h h0 h1
  unfold cls
  by_cases h2 : k + 1 = cnt X
  · rw [if_pos h2]
    omega
  · rw [if_neg h2]
    exact g.1 k h0 (by omega)
theorem csz_r {X : Ct} (h : HOk X) (g : GOk X) {k : Int} (h0 : 0 ≤ k) (h1 : k < cnt X) : 0 ≤ csz X k ∧ csz X k ≤ cls X k := by
  have b := beh_r h h0 h1
  have c := cls_r h g h0 h1
  unfold csz
  by_cases h2 : k + 1 = cnt X
  · rw [if_pos h2]
    have e : cls X k = beh X k := by unfold cls; rw [if_pos h2]
    have d := g.2.2.2.2.1 (by omega)
    rw [show cnt X - 1 = k by omega] at d
    have := g.2.2.2.1
    omega
  · rw [if_neg h2]
    omega
theorem ofr_r {X : Ct} (h : HOk X) (g : GOk X) {k : Int} (h0 : 0 ≤ k) (h1 : k < cnt X) : (k = 0 ∧ 0 < Xc X ∧ ofr X k = -Xc X ∧ osz X k = Xc X) ∨ (¬ (k = 0 ∧ 0 < Xc X) ∧ 0 ≤ ofr X k ∧ ofr X k ≤ hst X k) := by
  unfold osz ofr
  have b := h.2.2 k h0 h1
  have c := g.2.1
  by_cases h2 : k = 0
  · rw [if_pos h2]
    by_cases h3 : 0 < Xc X
    · have d := g.2.2.2.2.2.2.1 h3 (by omega)
      rw [h2]
      exact Or.inl ⟨rfl, h3, rfl, by omega⟩
    · exact Or.inr ⟨fun q => h3 q.2, by omega, by omega⟩
  · rw [if_neg h2]
    have b' := h.2.2 (k - 1) (by omega) (by omega)
    have c' := cls_r h g (k := k - 1) (by omega) (by omega)
    have d := beh_r h (k := k - 1) (by omega) (by omega)
    have e : beh X (k - 1) = hst X k - hen X (k - 1) := by
      unfold beh
      rw [if_pos (by omega), show k - 1 + 1 = k by omega]
    have f : hen X (k - 1) = hst X (k - 1) + hsz X (k - 1) := rfl
    exact Or.inr ⟨fun q => h2 q.1, by omega, by omega⟩
