/-! a number of the law by the model: one field -/
section MNM
variable {M M' : Mem} {fp : Int} {T : List Int} {t : Tk} {g : Gs} {r : Rs (Tk × Gs)}
theorem nEr_4 {lo hi : Int} : 0 ≤ nEr T t lo hi ∧ nEr T t lo hi ≤ 5 := nEr_r
/-- read a number, whatever came before -/
theorem m192s {Q : Int → Mem → Prop} {lo hi : Int} (hS : StM M T fp r) (hlo : 0 ≤ lo ∧ lo ≤ 999) (hhi : 0 ≤ hi ∧ hi ≤ 999) (hQ : ∀ (M' : Mem) (v : Int), FrJ M M' → (match r with
    | .error e => M' = M
    | .ok x => if nEr T x.1 lo hi = 0 then v = nmv T x.1.2.1 x.1.2.2 ∧ TmR M' T (nx T x.1) 0 fp ∧ Stg M' x.2 ∧ PtrM M' else TmR M' T x.1 (nEr T x.1 lo hi) x.1.2.1) → Q v M') : WI 192 [vR 204, vI lo, vI hi] M Q := by
  cases r with
  | error e =>
    obtain ⟨he, t, ht⟩ := hS
    exact m192f ht.2.2.2.1 he (fun v => hQ M v FrJ.rf rfl)
  | ok x =>
    obtain ⟨ht, hs, hp⟩ := hS
    refine m192 ht hlo hhi (fun M1 v f1 h1 => hQ M1 v f1 ?_)
    show if nEr T x.1 lo hi = 0 then _ else _
    by_cases q : nEr T x.1 lo hi = 0
    · rw [if_pos q] at h1 ⊢
      exact ⟨h1.1, h1.2, hs.j f1, hp.fn f1.n⟩
    · rw [if_neg q] at h1 ⊢
      exact h1
end MNM
