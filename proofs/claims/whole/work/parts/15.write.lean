/-! WHAT IS LEFT ALONE: the class's questions write into its scratch cells alone. -/
def Scr (k : Int) : Prop := (4 ≤ k ∧ k ≤ 13) ∨ k = 16 ∨ k = 35 ∨ k = 53 ∨ (55 ≤ k ∧ k ≤ 57) ∨ (59 ≤ k ∧ k ≤ 62) ∨ (64 ≤ k ∧ k ≤ 66) ∨ (101 ≤ k ∧ k ≤ 103) ∨ k = 105 ∨ (155 ≤ k ∧ k ≤ 157) ∨ k = 159
def Fr (M M' : Mem) : Prop := (∀ k : Int, ¬ Scr k → M' k = M k) ∧ (∀ j : Int, 0 ≤ j → j ≤ 3 → M' 4 j = M 4 j ∧ M' 9 j = M 9 j ∧ M' 53 j = M 53 j) ∧ M' 64 0 = M 64 0 ∧ M' 5 0 = M 5 0
/-- as the cut's own calls leave it -/
def FrC (M M' : Mem) : Prop := (∀ k : Int, k < 9 ∨ 13 < k → M' k = M k) ∧ ∀ j : Int, 0 ≤ j → j ≤ 3 → M' 9 j = M 9 j
theorem Fr.rf {M : Mem} : Fr M M := ⟨fun _ _ => rfl, fun _ _ _ => ⟨rfl, rfl, rfl⟩, rfl, rfl⟩
theorem FrC.rf {M : Mem} : FrC M M := ⟨fun _ _ => rfl, fun _ _ _ => rfl⟩
theorem Fr.tr {M M1 M2 : Mem} (h : Fr M M1) (g : Fr M1 M2) : Fr M M2 := ⟨fun k hk => (g.1 k hk).trans (h.1 k hk), fun j a b => ⟨(g.2.1 j a b).1.trans (h.2.1 j a b).1, (g.2.1 j a b).2.1.trans (h.2.1 j a b).2.1, (g.2.1 j a b).2.2.trans (h.2.1 j a b).2.2⟩, g.2.2.1.trans h.2.2.1, g.2.2.2.trans h.2.2.2⟩
theorem FrC.tr {M M1 M2 : Mem} (h : FrC M M1) (g : FrC M1 M2) : FrC M M2 := ⟨fun k hk => (g.1 k hk).trans (h.1 k hk), fun j a b => (g.2 j a b).trans (h.2 j a b)⟩
theorem FrC.fr {M M' : Mem} (h : FrC M M') : Fr M M' := ⟨fun k hk => h.1 k (by unfold Scr at hk; omega), fun j a b => ⟨by rw [h.1 4 (by omega)], h.2 j a b, by rw [h.1 53 (by omega)]⟩, by rw [h.1 64 (by omega)], by rw [h.1 5 (by omega)]⟩
theorem LawIs.fr {M M' : Mem} {p : Int} {L : Lw} (h : LawIs M p L) (g : Fr M M') : LawIs M' p L := by
  have hp := h.1
  have e : ∀ k : Int, ¬ Scr k → M' k = M k := g.1
  have e0 : M' p = M p := e _ (by unfold LwC at hp; unfold Scr; omega)
  have e1 : M' (p + 1) = M (p + 1) := e _ (by unfold LwC at hp; unfold Scr; omega)
  have e2 : M' (p + 2) = M (p + 2) := e _ (by unfold LwC at hp; unfold Scr; omega)
  have e3 : M' (p + 3) = M (p + 3) := e _ (by unfold LwC at hp; unfold Scr; omega)
  have e4 : M' (p + 4) = M (p + 4) := e _ (by unfold LwC at hp; unfold Scr; omega)
  have e8 : M' (p + 8) = M (p + 8) := e _ (by unfold LwC at hp; unfold Scr; omega)
  have e51 : M' (p + 51) = M (p + 51) := e _ (by unfold LwC at hp; unfold Scr; omega)
  have e52 : M' (p + 52) = M (p + 52) := e _ (by unfold LwC at hp; unfold Scr; omega)
  unfold LawIs PtrL SndIs TldIs NumIs at h ⊢
  rw [e0, e1, e2, e3, e4, e8, e51, e52]
  exact h
theorem CstIs.fr {M M' : Mem} {p : Int} {c : Int → Int} (hp : LwC p) (h : CstIs M p c) (g : Fr M M') : CstIs M' p c := by
  have e53 : M' (p + 53) = M (p + 53) := g.1 _ (by unfold LwC at hp; unfold Scr; omega)
  unfold CstIs
  rw [e53]
  exact h
theorem RowIs.fr {M M' : Mem} {r : Int} {l : List Int} (h : RowIs M r l) (e0 : M' r = M r) (e1 : M' (r + 1) = M (r + 1)) : RowIs M' r l := by
  unfold RowIs at h ⊢
  rw [e0, e1]
  exact h
def WrC (q : Int) (c : Nat) : Prop := ((q = 104 ∨ q = 158) ∧ c = 20) ∨ ((q = 15 ∨ q = 34) ∧ c = 8)
theorem WrdIs.fr {M M' : Mem} {q : Int} {c : Nat} {L : Lw} {W : List (List Int)} (hq : WrC q c) (h : WrdIs M q c L W) (g : Fr M M') : WrdIs M' q c L W := by
  have e : ∀ k : Int, ¬ Scr k → M' k = M k := g.1
  have e0 : M' q = M q := e _ (by unfold WrC at hq; unfold Scr; omega)
  have e2 : M' (q + 2) = M (q + 2) := e _ (by unfold WrC at hq; unfold Scr; omega)
  obtain ⟨h1, h2, h3, h4, h5, h6⟩ := h
  refine ⟨h1, by rw [e0]; exact h2, by rw [e0]; exact h3, h4, h5, fun i hi => ?_⟩
  obtain ⟨a, b, c1, c2⟩ := h6 i hi
  rw [e2]
  have er : M' (M (q + 2) i) = M (M (q + 2) i) := e _ (by unfold WrC at hq; unfold Scr; omega)
  have er1 : M' (M (q + 2) i + 1) = M (M (q + 2) i + 1) := e _ (by unfold WrC at hq; unfold Scr; omega)
  exact ⟨a.fr er er1, by rw [er]; exact b, c1, c2⟩
/-- what a cut stands on: the law, its words, the word, the cut's own pointers -/
def CutB (M : Mem) (p : Int) (L : Lw) (W : List (List Int)) : Prop := LawIs M p L ∧ WrdIs M (p + 8) 20 L W ∧ M 9 0 = 10 ∧ M 9 1 = 11 ∧ M 9 2 = 12 ∧ M 9 3 = 13
theorem lw8 {p : Int} (h : LwC p) : WrC (p + 8) 20 := by
  unfold LwC at h
  unfold WrC
  omega
theorem CutB.fr {M M' : Mem} {p : Int} {L : Lw} {W : List (List Int)} (h : CutB M p L W) (g : Fr M M') : CutB M' p L W :=
  ⟨h.1.fr g, h.2.1.fr (lw8 h.1.1) g, by rw [(g.2.1 0 (by decide) (by decide)).2.1]; exact h.2.2.1, by rw [(g.2.1 1 (by decide) (by decide)).2.1]; exact h.2.2.2.1, by rw [(g.2.1 2 (by decide) (by decide)).2.1]; exact h.2.2.2.2.1, by rw [(g.2.1 3 (by decide) (by decide)).2.1]; exact h.2.2.2.2.2⟩
/-- a word's row that stands outside of what questions write -/
def RowS (r : Int) : Prop := ¬ Scr r ∧ ¬ Scr (r + 1)
theorem RowIs.fr' {M M' : Mem} {r : Int} {l : List Int} (h : RowIs M r l) (hs : RowS r) (g : Fr M M') : RowIs M' r l := h.fr (g.1 _ hs.1) (g.1 _ hs.2)
section WR
variable {M : Mem} {p : Int} {L : Lw} {W : List (List Int)} {X : Ct}
theorem upM_o {M : Mem} {k j v a : Int} (h : a ≠ k) : upM M k j v a = M a := by
  funext b
  unfold upM
  rw [if_neg (fun q => h q.1)]
theorem upM_f {M : Mem} {k j v b : Int} (h : b ≠ j) : upM M k j v k b = M k b := by
  unfold upM
  rw [if_neg (fun q => h q.2)]
theorem upM_s {M : Mem} {k j v : Int} : upM M k j v k j = v := by
  unfold upM
  rw [if_pos ⟨rfl, rfl⟩]
/-- the same cut but for the gaps -/
def wG (X : Ct) (d : List Int) : Ct := (X.1, X.2.1, d, X.2.2.2)
theorem CutH.g (h : CutH M p L W X) (d : List Int) : CutH M p L W (wG X d) := h
theorem CutH.up {M' : Mem} (h : CutH M p L W X) (g : ∀ k : Int, k ≠ 12 → k ≠ 13 → M' k = M k) : CutH M' p L W X := by
  have e : ∀ k : Int, k ≠ 12 → k ≠ 13 → M' k = M k := g
  have hg : Fr M M' := ⟨fun k hk => e k (by unfold Scr at hk; omega) (by unfold Scr at hk; omega), fun j _ _ => ⟨by rw [e 4 (by decide) (by decide)], by rw [e 9 (by decide) (by decide)], by rw [e 53 (by decide) (by decide)]⟩, by rw [e 64 (by decide) (by decide)], by rw [e 5 (by decide) (by decide)]⟩
  obtain ⟨h1, h2, h3, h4, h5, h6, h7⟩ := h
  have hrow : ∀ {r : Int} {l : List Int}, RowIs M r l → RowIs M' r l := fun {r l} hr => by
    have hc := hr.1
    refine hr.fr (e _ ?_ ?_) (e _ ?_ ?_)
    · rintro rfl; exact absurd hc.2.1 (by decide +kernel)
    · rintro rfl; exact absurd hc.2.1 (by decide +kernel)
    · intro q
      have : r = 11 := by omega
      subst this
      exact absurd hc.2.1 (by decide +kernel)
    · intro q
      have : r = 12 := by omega
      subst this
      exact absurd hc.2.1 (by decide +kernel)
  have e9 := e 9 (by decide) (by decide)
  refine ⟨h1.fr hg, h2.fr (lw8 h1.1) hg, ?_, ?_, h5, ?_, ?_⟩
  · rw [e9]; exact hrow h3
  · rw [e9]; exact h4
  · intro k a b
    rw [e 10 (by decide) (by decide), e 11 (by decide) (by decide)]
    exact h6 k a b
  · intro hx
    rw [e9]
    exact hrow (h7 hx)
theorem s12 {Q : Mem → Prop} (h : CutH M p L W X) (hQ : ∀ M' : Mem, (∀ k : Int, k ≠ 12 → M' k = M k) → (∀ k : Int, 0 ≤ k → k < cnt X → M' 12 k = if k + 1 = cnt X then beh X k else 0) → Q M') : WV 12 [vR 9] M Q := by
  have hc := h.2.2.2.2.1.1
  have hc0 : 0 ≤ cnt X := Int.natCast_nonneg _
  have key : ∀ (n : Nat) (j : Int) (N : Mem) (P : AV → Mem → Prop), 0 ≤ j → j + n = cnt X → (∀ k : Int, k ≠ 12 → N k = M k) → (∀ k : Int, 0 ≤ k → k < j → N 12 k = if k + 1 = cnt X then beh X k else 0) → (∀ r N', (∀ k : Int, k ≠ 12 → N' k = M k) → (∀ k : Int, 0 ≤ k → k < cnt X → N' 12 k = if k + 1 = cnt X then beh X k else 0) → P r N') → WR 12 2 [some (vR 9), some (vI j)] [] N P := by
    intro n
    induction n with
    | zero =>
      intro j N P hj hn hN hk hP
      have hH := h.up (M' := N) (fun k a _ => hN k a)
      have h9 := hH.2.2.2.1.2.2.2.2.2.1
      refine t_12_2 sh_cut.1 ?_
      rw [h9]
      refine ⟨by omega, by omega, ?_⟩
      rw [if_pos (by omega)]
      exact hP _ _ hN (fun k a b => hk k a (by omega))
    | succ n ih =>
      intro j N P hj hn hN hk hP
      have hH := h.up (M' := N) (fun k a _ => hN k a)
      have h9 := hH.2.2.2.1.2.2.2.2.2.1
      have h2 := hH.2.2.2.1.2.2.1
      have step : ∀ v : Int, v = (if j + 1 = cnt X then beh X j else 0) → WR 12 2 [some (vR 9), some (vI (j + 1))] [] (upM N 12 j v) P := by
        intro v hv
        refine ih (j + 1) _ P (by omega) (by omega) (fun k a => by rw [upM_o a]; exact hN k a) (fun k a b => ?_) hP
        by_cases e : k = j
        · rw [e, upM_s, hv]
        · rw [upM_f e]
          exact hk k a (by omega)
      have hg : gA 20 12 j := ⟨by rw [sh_cut.2.2.2.1], hj, by rw [sh_cut.2.2.2.1]; show _ < ((12 : Nat) : Int); omega⟩
      refine t_12_2 sh_cut.1 ?_
      rw [h9, h2]
      refine ⟨by omega, by omega, ?_⟩
      rw [if_neg (by omega)]
      refine ⟨by omega, ?_⟩
      by_cases e : j = cnt X - 1
      · rw [if_pos e, s15 hH hj (by omega)]
        exact ⟨hg, step _ (by rw [if_pos (by omega)])⟩
      · rw [if_neg e]
        exact ⟨hg, step _ (by rw [if_neg (by omega)])⟩
  exact t_12 sh_cut.1 (key X.2.1.length 0 M _ (by omega) (by unfold cnt; omega) (fun _ _ => rfl) (fun k a b => by omega) (fun _ N' a b => hQ N' a b))
end WR
