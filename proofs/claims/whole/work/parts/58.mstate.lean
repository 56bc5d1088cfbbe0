/-! the model's state while it makes its tables -/
section MS
variable {M M' : Mem} {fp : Int} {T : List Int} {t : Tk} {g : Gs} {r : Rs (Tk × Gs)}
/-- what the making of tables leaves alone -/
def FrN (M M' : Mem) : Prop := (∀ k : Int, k ≠ 204 → ¬ (206 ≤ k ∧ k ≤ 217) → M' k = M k) ∧ ∀ j : Int, (j < 3 ∨ 9 < j) → ¬ (13 ≤ j ∧ j ≤ 26) → M' 204 j = M 204 j
theorem FrN.rf : FrN M M := ⟨fun _ _ _ => rfl, fun _ _ _ => rfl⟩
theorem FrN.tr {M1 M2 : Mem} (h : FrN M M1) (f : FrN M1 M2) : FrN M M2 := ⟨fun k a b => (f.1 k a b).trans (h.1 k a b), fun j a b => (f.2 j a b).trans (h.2 j a b)⟩
theorem FrJ.n (h : FrJ M M') : FrN M M' := ⟨fun k a b => h.1 k a (by omega), fun j a b => h.2 j a (by omega)⟩
theorem PtrM.fn (h : PtrM M) (f : FrN M M') : PtrM M' := fun x hx => by
  have k1 : ∀ q ∈ mpT, (q.1 < 3 ∨ 9 < q.1) ∧ ¬ (13 ≤ q.1 ∧ q.1 ≤ 26) := by decide
  rw [f.2 x.1 (k1 x hx).1 (k1 x hx).2]
  exact h x hx
/-- a directive under way, by the model: done so far, or a fault -/
def StM (M : Mem) (T : List Int) (fp : Int) : Rs (Tk × Gs) → Prop
  | .error e => (1 ≤ e.1 ∧ e.1 ≤ 5) ∧ ∃ t, TmR M T t e.1 e.2
  | .ok x => TmR M T x.1 0 fp ∧ Stg M x.2 ∧ PtrM M
theorem Stg.j (h : Stg M g) (f : FrJ M M') : Stg M' g := by
  obtain ⟨h1, h2, h3, h4, h5, h6, h7, h8⟩ := h
  have e : ∀ k : Int, 207 ≤ k → M' k = M k := fun k a => f.1 k (by omega) (by omega)
  have j : ∀ j : Int, 14 ≤ j → M' 204 j = M 204 j := fun j a => f.2 j (by omega) (by omega)
  refine ⟨?_, ?_, ?_, ?_, fun i a b => by rw [e 216 (by decide)]; exact h5 i a b, by rw [j 25 (by decide)]; exact h6, by rw [j 26 (by decide)]; exact h7, h8⟩
  · unfold StgS at h1 ⊢
    rw [j 14 (by decide), e 207 (by decide), e 208 (by decide), e 209 (by decide), e 210 (by decide)]
    exact h1
  · unfold StgT SegIs at h2 ⊢
    rw [j 15 (by decide), j 16 (by decide), e 211 (by decide), e 212 (by decide), e 213 (by decide)]
    exact h2
  · unfold StgZ at h3 ⊢
    rw [j 18 (by decide), j 19 (by decide), j 20 (by decide), j 21 (by decide), j 22 (by decide), j 23 (by decide), j 24 (by decide), e 217 (by decide)]
    exact h3
  · unfold StgW SegIs at h4 ⊢
    rw [j 17 (by decide), e 214 (by decide), e 215 (by decide)]
    exact h4
end MS
