/-! THE PLAIN CUT, by the class. -/
/-- the most of so many that does, 0 if none -/
def dn (P : Int → Bool) : Nat → Int
  | 0 => 0
  | m + 1 => if P ((m : Int) + 1) = true then (m : Int) + 1 else dn P m
theorem dn_r (P : Int → Bool) : ∀ m : Nat, 0 ≤ dn P m ∧ dn P m ≤ m
  | 0 => ⟨Int.le_refl _, Int.le_refl _⟩
  | m + 1 => by
    have := dn_r P m
    unfold dn
    split <;> omega
def legO (L : Lw) (W : List (List Int)) (l : List Int) (e s : Int) : Bool := decide (kind L W (sub l (e - s) s) ≠ 0)
def plN (L : Lw) (W : List (List Int)) (X : Ct) (k : Int) : Int := beh X k - dn (legO L W (Xl X) (hst X (k + 1))) (min (beh X k) 4).toNat
def plD (L : Lw) (W : List (List Int)) (X : Ct) : List Int := (List.range (X.2.1.length - 1)).map fun k : Nat => plN L W X (k : Int)
theorem gi_map {f : Int → Int} {n : Nat} {k : Int} (h0 : 0 ≤ k) (h1 : k < n) : gi ((List.range n).map fun k : Nat => f (k : Int)) k = f k := by
  obtain ⟨m, rfl⟩ := Int.eq_ofNat_of_zero_le h0
  rw [gi_nat, List.getD_eq_getElem?_getD, List.getElem?_map, List.getElem?_range (by omega)]
  rfl
/-- the plain cut -/
def XP (L : Lw) (W : List (List Int)) (X : Ct) : Ct := wG X (plD L W X)
section PL
variable {M : Mem} {p r : Int} {L : Lw} {W : List (List Int)} {l : List Int} {X : Ct}
theorem wG_h {d : List Int} (h : HOk X) : HOk (wG X d) := h
theorem wG_g {d : List Int} (g : GOk X) (hd : ∀ k : Int, 0 ≤ k → k + 1 < cnt X → 0 ≤ gi d k ∧ gi d k ≤ beh X k) : GOk (wG X d) := ⟨hd, g.2⟩
theorem plN_r (h : HOk X) {k : Int} (h0 : 0 ≤ k) (h1 : k < cnt X) : 0 ≤ plN L W X k ∧ plN L W X k ≤ beh X k := by
  have hb := beh_r h h0 h1
  have := dn_r (legO L W (Xl X) (hst X (k + 1))) (min (beh X k) 4).toNat
  unfold plN
  omega
theorem XP_g (h : HOk X) (g : GOk X) : GOk (XP L W X) := by
  refine wG_g g fun k h0 h1 => ?_
  have hc : cnt X = X.2.1.length := rfl
  unfold plD
  rw [gi_map h0 (by omega)]
  exact plN_r h h0 (by omega)
theorem s17 {Q : Mem → Prop} (h : CutIs M p L W X) (hQ : ∀ M' : Mem, (∀ k : Int, k ≠ 12 → M' k = M k) → CutIs M' p L W (XP L W X) → Q M') : WV 17 [vR 9] M Q := by
  have hH := h.1.2.2.2.2.1
  have hc12 := hH.1
  have hc0 : 0 ≤ cnt X := Int.natCast_nonneg _
  have hcl : cnt X = X.2.1.length := rfl
  have key : ∀ (n : Nat) (j : Int) (l2 l3 : Option AV) (N : Mem) (P : AV → Mem → Prop), 0 ≤ j → (j + n = cnt X - 1 ∨ (n = 0 ∧ cnt X ≤ 1 ∧ j = 0)) → (∀ k : Int, k ≠ 12 → N k = M k) → (∀ k : Int, 0 ≤ k → k < cnt X → N 12 k = if k < j then plN L W X k else cls X k) → (∀ v M', (∀ k : Int, k ≠ 12 → M' k = M k) → CutIs M' p L W (XP L W X) → P v M') → WR 17 2 [some (vR 9), some (vI j), l2, l3] [] N P := by
    intro n
    induction n with
    | zero =>
      intro j l2 l3 N P hj hn hN hk hP
      have hC := h.1.up (M' := N) (fun k a _ => hN k a)
      have h9 := hC.2.2.2.1.2.2.2.2.2.1
      refine t_17_2 sh_cut.1 ?_
      rw [h9]
      refine ⟨by omega, by omega, ?_⟩
      rw [if_pos (by omega)]
      refine hP _ _ hN ⟨hC, fun k a b => ?_, XP_g hH h.2.2⟩
      replace b : k < cnt X := b
      rw [hk k a b]
      show _ = if k + 1 = cnt X then beh X k else gi (plD L W X) k
      by_cases q : k + 1 = cnt X
      · rw [if_neg (by omega), if_pos q]
        unfold cls
        rw [if_pos q]
      · rw [if_pos (by omega), if_neg q]
        unfold plD
        rw [gi_map a (by omega)]
    | succ n ih =>
      intro j l2 l3 N P hj hn hN hk hP
      have hC := h.1.up (M' := N) (fun k a _ => hN k a)
      have h9 := hC.2.2.2.1.2.2.2.2.2.1
      have hb := beh_r hH hj (show j < cnt X by omega)
      refine t_17_2 sh_cut.1 ?_
      rw [h9, s15 hC hj (by omega)]
      refine ⟨by omega, by omega, ?_⟩
      rw [if_neg (by omega)]
      refine ⟨by omega, ?_⟩
      have h2 := hC.2.2.2.1.2.2.1
      have hst1 := hen_r hH (k := j + 1) (by omega) (by omega)
      have hen0 := hen_r hH (k := j) (by omega) (by omega)
      have hbe : beh X j = hst X (j + 1) - hen X j := by unfold beh; rw [if_pos (by omega)]
      have hr := hC.2.2.1
      have inner : ∀ (m : Nat), (m : Int) ≤ beh X j → m ≤ 4 → dn (legO L W (Xl X) (hst X (j + 1))) m = dn (legO L W (Xl X) (hst X (j + 1))) (min (beh X j) 4).toNat → WR 17 24 [some (vR 9), some (vI j), some (vI (beh X j)), some (vI m)] [] N P := by
        intro m
        have done : ∀ s : Int, s = dn (legO L W (Xl X) (hst X (j + 1))) (min (beh X j) 4).toNat → gA 20 12 j ∧ WR 17 2 [some (vR 9), some (vI (j + 1)), some (vI (beh X j)), some (vI s)] [] (upM N 12 j (beh X j - s)) P := by
          intro s hs
          refine ⟨⟨by rw [sh_cut.2.2.2.1], hj, by rw [sh_cut.2.2.2.1]; show _ < ((12 : Nat) : Int); omega⟩, ih (j + 1) _ _ _ P (by omega) (by omega) (fun k a => by rw [upM_o a]; exact hN k a) (fun k a b => ?_) hP⟩
          by_cases e : k = j
          · rw [e, upM_s, if_pos (by omega), hs]
            rfl
          · rw [upM_f e, hk k a b]
            by_cases q : k < j
            · rw [if_pos q, if_pos (by omega)]
            · rw [if_neg q, if_neg (by omega)]
        induction m with
        | zero =>
          intro hm hm4 hd
          refine t_17_24 sh_cut.1 ?_
          rw [h2]
          refine ⟨by decide, ?_⟩
          rw [if_pos (by decide)]
          exact done 0 hd
        | succ m ihm =>
          intro hm hm4 hd
          refine t_17_24 sh_cut.1 ?_
          rw [h2, hC.2.2.2.1.1, (hC.2.2.2.2.2.1 (j + 1) (by omega) (by omega)).1, hC.2.2.2.1.2.2.2.2.1]
          refine ⟨by omega, ?_⟩
          have hsl := sub_len (l := Xl X) (a := hst X (j + 1) - ((m + 1 : Nat) : Int)) (n := ((m + 1 : Nat) : Int)) (by omega) (by omega) (by show _ ≤ Xn X; omega)
          have hkr := kind_r L W (sub (Xl X) (hst X (j + 1) - ((m + 1 : Nat) : Int)) ((m + 1 : Nat) : Int))
          rw [if_neg (by omega), s83 hr (by omega) (by omega) (by show _ ≤ Xn X; omega), hr.1.2.1, s48 hC.1 hC.2.1 (sub_dg hr.2.2.2.2.1 _ _) (by omega), h2]
          refine ⟨⟨by rw [sh_cut.2.1], by omega, by rw [sh_cut.2.1]; show _ < ((12 : Nat) : Int); omega⟩, rfl, hC.1.o.1.2, by omega, ?_⟩
          have ed : dn (legO L W (Xl X) (hst X (j + 1))) (m + 1) = if legO L W (Xl X) (hst X (j + 1)) ((m : Int) + 1) = true then (m : Int) + 1 else dn (legO L W (Xl X) (hst X (j + 1))) m := rfl
          have el : legO L W (Xl X) (hst X (j + 1)) ((m : Int) + 1) = decide (kind L W (sub (Xl X) (hst X (j + 1) - ((m + 1 : Nat) : Int)) ((m + 1 : Nat) : Int)) ≠ 0) := rfl
          rw [ed, el] at hd
          by_cases e : kind L W (sub (Xl X) (hst X (j + 1) - ((m + 1 : Nat) : Int)) ((m + 1 : Nat) : Int)) = 0
          · rw [if_pos e]
            rw [if_neg (by rw [decide_eq_false (fun q => q e)]; decide)] at hd
            rw [show ((m + 1 : Nat) : Int) + (-1) = m by omega]
            exact ihm (by omega) (by omega) hd
          · rw [if_neg e]
            rw [if_pos (decide_eq_true e)] at hd
            exact done _ hd
      have e4 : min (beh X j) 4 = ((min (beh X j) 4).toNat : Int) := by omega
      rw [e4]
      exact inner _ (by omega) (by omega) rfl
  exact t_17 sh_cut.1 (key (cnt X - 1).toNat 0 _ _ M _ (by omega) (by omega) (fun _ _ => rfl) (fun k a b => by rw [if_neg (by omega)]; exact h.2.1 k a b) (fun _ M' a b => hQ M' a b))
end PL
