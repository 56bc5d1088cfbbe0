/-! a directive that may stand once: the model's mark -/
section MO
variable {M M' : Mem} {ft fp : Int} {T : List Int} {t : Tk}
theorem TmR.o (h : TmR M T t ft fp) (f : ∀ j : Int, (j ≤ 9 ∨ j = 12 ∨ j = 13) → M' 204 j = M 204 j) (e5 : M' 205 = M 205) (e6 : M' 206 = M 206) : TmR M' T t ft fp := by
  obtain ⟨⟨⟨p0, p12⟩, b1, b2, b3, b4⟩, ⟨k1, k2, k3, k4, k5, k6⟩, ok, f8, f9⟩ := h
  refine ⟨⟨⟨by rw [f 0 (by decide)]; exact p0, by rw [f 12 (by decide)]; exact p12⟩, by rw [f 2 (by decide)]; exact b1, b2, b3, fun j hj => by rw [e5]; exact b4 j hj⟩, ⟨by rw [f 3 (by decide)]; exact k1, by rw [f 4 (by decide)]; exact k2, by rw [f 5 (by decide)]; exact k3, fun z => by rw [f 6 (by decide)]; exact k4 z, fun z => by rw [f 7 (by decide), f 13 (by decide), e6]; exact k5 z, by rw [f 7 (by decide)]; exact k6⟩, ok, by rw [f 8 (by decide)]; exact f8, by rw [f 9 (by decide)]; exact f9⟩
theorem m198 {Q : Mem → Prop} {i : Int} {sd : Int → Bool} (h : TmR M T t 0 fp) (h1 : t.1 = 1) (hi : 0 ≤ i ∧ i < 6) (hb : M 204 25 = bits sd) (hQ : ∀ M' : Mem, (∀ k : Int, k ≠ 204 → k ≠ 206 → M' k = M k) → (∀ j : Int, (j < 3 ∨ 9 < j) → j ≠ 13 → j ≠ 25 → M' 204 j = M 204 j) → (if sd i = true then TmR M' T t 2 t.2.1 else TmR M' T (nx T t) 0 fp ∧ M' 204 25 = bits (setB sd i)) → Q M') : WV 198 [vR 204, vI i] M Q := by
  have br := bits_r sd
  have b1 := b2i_r (sd i)
  obtain ⟨k4, f5, f4, f8, f9⟩ := h.sp
  refine t_198 o204 ?_
  rw [m189 f8 (by decide), hb, bits_and hi, bits_or hi]
  refine ⟨by decide, ?_⟩
  rw [if_neg (by decide)]
  refine ⟨⟨hi.1, by omega, by omega, by omega⟩, by omega, ?_⟩
  cases hs : sd i
  · rw [if_neg (by decide)]
    have u : ∀ j : Int, j ≠ 25 → upM M 204 25 (bits (setB sd i)) 204 j = M 204 j := fun j a => upM_f a
    have hN : TmR (upM M 204 25 (bits (setB sd i))) T t 0 fp := h.o (fun j a => u j (by omega)) (upM_o (by decide)) (upM_o (by decide))
    rw [m189 hN.sp.2.2.2.1 (by decide)]
    refine ⟨⟨hi.1, by omega⟩, by decide, ?_⟩
    rw [if_neg (by decide)]
    refine m187n' hN (fun M1 g1 k1 => hQ M1 (fun k a b => by rw [g1.1 k a b, upM_o a]) (fun j a b c => by rw [g1.2 j a b, u j c]) ?_)
    rw [hs, if_neg (by decide)]
    exact ⟨k1, by rw [g1.2 25 (by decide) (by decide), upM_s]⟩
  · rw [if_pos (by decide)]
    refine m188 h (by decide) (fun M1 g1 k1 => ?_)
    rw [if_pos rfl, if_pos rfl, if_neg (by omega)] at k1
    have u : ∀ j v : Int, j ≠ 25 → upM M1 204 25 v 204 j = M1 204 j := fun j v a => upM_f a
    have hN : ∀ v, TmR (upM M1 204 25 v) T t 2 t.2.1 := fun v => k1.o (fun j a => u j v (by omega)) (upM_o (by decide)) (upM_o (by decide))
    refine ⟨⟨hi.1, by omega⟩, ?_⟩
    rw [m189 (hN _).sp.2.2.2.1 (by decide)]
    refine ⟨by decide, ?_⟩
    rw [if_pos (by decide)]
    refine hQ _ (fun k a b => by rw [upM_o a, g1.1 k a b]) (fun j a b c => by rw [u j _ c, g1.2 j a b]) ?_
    rw [hs, if_pos rfl]
    exact hN _
end MO
