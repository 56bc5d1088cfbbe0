/-! THE BEGINNING: what a call does not see (the cells that are not made), and both objects made. -/
def Ag (M M' : Mem) : Prop := ∀ k : Int, 0 < k → ∀ j, M k j = M' k j
def Ng (N M' : Mem) : Prop := ∀ k : Int, k ≤ 0 → N k = M' k
def RelN (M' : Mem) : Option Nx → Option Nx → Prop
  | some (.inl q), some (.inl q') => q'.1 = q.1 ∧ q'.2.1 = q.2.1 ∧ q'.2.2.1 = q.2.2.1 ∧ q'.2.2.2.2 = q.2.2.2.2 ∧ Ag q.2.2.2.1 q'.2.2.2.1 ∧ Ng q'.2.2.2.1 M'
  | some (.inr w), some (.inr w') => w = w'
  | none, _ => True
  | _, _ => False
theorem RelN.go {M M' N N' : Mem} {pc : Nat} {ls : Lo} {st st' : List AV} {sh : Sh} (hA : Ag N N') (hN : Ng N' M') (hs : st' = st) : RelN M' (goN pc ls st N sh) (goN pc ls st' N' sh) := ⟨rfl, rfl, hs, rfl, hA, hN⟩
theorem RelN.no {M' : Mem} {o : Option Nx} : RelN M' none o := by unfold RelN; split <;> first | trivial | simp_all
theorem Ng.rf {M : Mem} : Ng M M := fun _ _ => rfl
theorem Ag.up {M M' : Mem} (h : Ag M M') (k j v : Int) : Ag (upM M k j v) (upM M' k j v) := by
  intro a ha b
  unfold upM
  split
  · rfl
  · exact h a ha b
theorem Ng.up {M : Mem} {k : Int} (h : 0 < k) (j v : Int) : Ng (upM M k j v) M := by
  intro a ha
  funext b
  unfold upM
  rw [if_neg (by omega)]
theorem exA_ag {op : Nat} {a b : Int} {nx : Nat} {ls : Lo} {st : List AV} {M M' : Mem} {sh : Sh} (hA : Ag M M') : RelN M' (exA op a b nx ls st M sh) (exA op a b nx ls st M' sh) := by
  unfold exA
  split <;> (repeat' split) <;> first | exact RelN.no | exact RelN.go (M := M) hA Ng.rf rfl | simp_all
theorem exB_ag {op nx : Nat} {ls : Lo} {st : List AV} {M M' : Mem} {sh : Sh} (hA : Ag M M') : RelN M' (exB op nx ls st M sh) (exB op nx ls st M' sh) := by
  have hb : ∀ (o : Option AV) (st : List AV), RelN M' (o.bind fun w => goN nx ls (w :: st) M sh) (o.bind fun w => goN nx ls (w :: st) M' sh) := by
    intro o st
    cases o with
    | none => exact RelN.no
    | some w => exact RelN.go (M := M) hA Ng.rf rfl
  unfold exB
  repeat' split
  all_goals first | exact RelN.no | exact hb _ _ | simp_all
theorem exC_ag {sw : List (Int × Nat)} {op : Nat} {a b : Int} {nx : Nat} {ls : Lo} {st : List AV} {M M' : Mem} {sh : Sh} (hA : Ag M M') : RelN M' (exC sw op a b nx ls st M sh) (exC sw op a b nx ls st M' sh) := by
  unfold exC
  split <;> (repeat' split) <;> first | exact RelN.no | exact RelN.go (M := M) hA Ng.rf rfl | simp_all
theorem exE_ag {op : Nat} {a b : Int} {nx : Nat} {ls : Lo} {st : List AV} {M M' : Mem} {sh : Sh} (hA : Ag M M') : RelN M' (exE clO op a b nx ls st M sh) (exE clO op a b nx ls st M' sh) := by
  unfold exE
  split
  case h_8 =>
    split
    · split
      · rename_i hg
        have h1 := sh_pos hg.1 (by decide) (by decide) (by decide)
        have h2 := sh_pos hg.2.1 (by decide) (by decide) (by decide)
        refine RelN.go (M := M) ?_ ?_ rfl
        · intro p hp j
          dsimp only
          split
          · exact hA _ h1 _
          · exact hA _ hp _
        · intro p hp
          funext j
          dsimp only
          rw [if_neg (by omega)]
      · exact RelN.no
    · exact RelN.no
  all_goals (repeat' split) <;> first | exact RelN.no | exact RelN.go (M := M) hA Ng.rf rfl | rfl | simp_all [RelN]
theorem Ag.ze {M M' : Mem} (h : Ag M M') (k : Int) : Ag (zeM M k) (zeM M' k) := by
  intro a ha b
  unfold zeM
  split
  · rfl
  · exact h a ha b
theorem Ng.ze {M : Mem} {k : Int} (h : 0 < k) : Ng (zeM M k) M := by
  intro a ha
  funext b
  unfold zeM
  rw [if_neg (by omega)]
theorem exD_ag {y op : Nat} {a b : Int} {nx : Nat} {ls : Lo} {st : List AV} {M M' : Mem} {sh : Sh} (hy : y ≠ LAWN) (hA : Ag M M') : RelN M' (exD y op a b nx ls st M sh) (exD y op a b nx ls st M' sh) := by
  have hk : ∀ {k : Int}, (shA sh k).1 = 20 ∨ (shA sh k).1 = 21 ∨ (shA sh k).1 = 22 ∨ (shA sh k).1 = 23 ∨ (shA sh k).1 = 24 ∨ (shA sh k).1 = 25 ∨ (shA sh k).1 = 26 → 0 < k := by
    intro k h
    rcases h with h | h | h | h | h | h | h <;> exact sh_pos h (by decide) (by decide) (by decide)
  have hl : (0 : Int) < sh.length + 1 := by omega
  unfold exD
  split <;> (repeat' split)
  all_goals first
    | exact RelN.no
    | exact RelN.go (M := M) hA Ng.rf rfl
    | (rename_i hg; exact RelN.go (M := M) (hA.up _ _ _) (Ng.up hg.1 _ _) rfl)
    | (rename_i hg; exact RelN.go (M := M) hA Ng.rf (by rw [hA _ hg.1]))
    | (rename_i hg; exact RelN.go (M := M) hA Ng.rf (by rw [hA _ (hk (by omega))]))
    | (rename_i hg; exact RelN.go (M := M) (hA.up _ _ _) (Ng.up (hk (by omega)) _ _) rfl)
    | (exact RelN.go (M := M) (hA.ze _) (Ng.ze hl) rfl)
    | (exfalso; rename_i hg; exact hy hg.1)
    | (exfalso; rename_i hg _; exact hy hg)
    | (refine RelN.go (M := M) ?_ ?_ rfl
       · intro p hp j
         dsimp only
         repeat' split
         all_goals first | rfl | exact hA _ hp _
       · intro p hp
         funext j
         dsimp only
         rw [if_neg (by omega), if_neg (by omega)])
    | simp_all
theorem exStep_ag {sw : List (Int × Nat)} {y : Nat} {i : Ins} {ls : Lo} {st : List AV} {M M' : Mem} {sh : Sh} (hy : y ≠ LAWN) (hA : Ag M M') : RelN M' (exStep clO sw y i ls st M sh) (exStep clO sw y i ls st M' sh) := by
  unfold exStep
  repeat' split
  · exact exA_ag hA
  · exact exB_ag hA
  · exact exC_ag hA
  · exact exD_ag hy hA
  · exact exE_ag hA
  · cases exR i.1 i.2.1 st with
    | none => exact RelN.no
    | some v => exact rfl
theorem run_ag : ∀ (n : Nat) {y pc : Nat} {ls : Lo} {st : List AV} {M M' : Mem} {sh : Sh} {r : AV} {N : Mem} {sh' : Sh}, y ≠ LAWN → Ag M M' → run n y pc ls st M sh = some (r, N, sh') → ∃ N', run n y pc ls st M' sh = some (r, N', sh') ∧ Ag N N' ∧ Ng N' M'
  | 0, _, _, _, _, _, _, _, _, _, _, _, _, h => nomatch h
  | n + 1, y, pc, ls, st, M, M', sh, r, N, sh', hy, hA, h => by
    unfold run at h ⊢
    split at h
    · cases h
    rename_i i hcd
    have hr := exStep_ag (sw := sws y pc) (i := i) (ls := ls) (st := st) (sh := sh) hy hA
    split at h
    · cases h
    · rename_i q hx
      rw [hx] at hr
      unfold RelN at hr
      split at hr
      · rename_i q1 q' e1 e2
        cases e1
        obtain ⟨h1, h2, h3, h4, h5, h6⟩ := hr
        rw [e2]
        dsimp only
        rw [h1, h2, h3, h4]
        obtain ⟨N', g1, g2, g3⟩ := run_ag n hy h5 h
        exact ⟨N', g1, g2, fun k hk => (g3 k hk).trans (h6 k hk)⟩
      · rename_i e1 e2; cases e1
      · rename_i e1; cases e1
      · exact hr.elim
    · rename_i q hx
      rw [hx] at hr
      unfold RelN at hr
      split at hr
      · rename_i e1 e2; cases e1
      · rename_i w w' e1 e2
        cases e1
        subst hr
        rw [e2]
        dsimp only
        split at h
        · rename_i hl
          rw [if_pos hl]
          split at h
          · cases h
          rename_i r1 hr1
          have hz : q.1 ≠ LAWN := by
            intro hz
            obtain ⟨hyy, -⟩ := cd_chk hcd
            have hca := call_at hyy hcd
            obtain ⟨op, a, b, nx⟩ := i
            rcases ex_kind hx with ⟨hop, -⟩ | ⟨-, v, -, hv⟩
            · rcases hop with rfl | rfl | rfl
              · replace hca : (!isSt a.toNat && !isIni a.toNat && Nat.blt (clO a.toNat) 99 && Nat.blt a.toNat 298) = true := hca
                simp only [Bool.and_eq_true, Nat.blt_eq] at hca
                obtain ⟨r0, As, q1, -⟩ := inv_80 hx
                unfold LAWN at hz
                omega
              · replace hca : (!isSt a.toNat && isIni a.toNat && Nat.blt (clO a.toNat) 13 && Nat.blt a.toNat 298 && rtK a.toNat == 0 && decide (rtY a.toNat = none)) = true := hca
                simp only [Bool.and_eq_true, Nat.blt_eq] at hca
                obtain ⟨r0, As, q1, -⟩ := inv_81 hx
                unfold LAWN at hz
                omega
              · replace hca : (isSt a.toNat && Nat.blt a.toNat 298) = true := hca
                simp only [Bool.and_eq_true, Nat.blt_eq] at hca
                obtain ⟨As, q1, -⟩ := inv_82 hx
                unfold LAWN at hz
                omega
            · cases hv
          obtain ⟨N1, g1, g2, g3⟩ := run_ag n (N := r1.2.1) (sh' := r1.2.2) (r := r1.1) hz hA hr1
          rw [g1]
          dsimp only
          obtain ⟨N2, k1, k2, k3⟩ := run_ag n hy g2 h
          exact ⟨N2, k1, k2, fun k hk => (k3 k hk).trans (g3 k hk)⟩
        · cases h
      · rename_i e1; cases e1
      · exact hr.elim
    · rename_i v hx
      rw [hx] at hr
      unfold RelN at hr
      split at hr
      · rename_i e1 e2; cases e1
      · rename_i w w' e1 e2
        cases e1
        subst hr
        rw [e2]
        cases h
        exact ⟨M', rfl, hA, Ng.rf⟩
      · rename_i e1; cases e1
      · exact hr.elim
/-- no call changes a cell that it did not make or reach: the script's, the constants' -/
theorem run_ng {n y pc : Nat} {ls : Lo} {st : List AV} {M : Mem} {sh : Sh} {r : AV} {N : Mem} {sh' : Sh} (hy : y ≠ LAWN) (h : run n y pc ls st M sh = some (r, N, sh')) : Ng N M := by
  obtain ⟨N', h1, -, h3⟩ := run_ag n hy (fun _ _ _ => rfl : Ag M M) h
  rw [h] at h1
  cases h1
  exact h3
