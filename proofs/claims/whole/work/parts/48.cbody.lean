/-! the class's directives that tell numbers -/
section CB
variable {M M' : Mem} {fp p : Int} {T : List Int} {t : Tk} {L : Lw} {g : Gs} {r : Rs (Tk × Gs)} {v : Int}
theorem wz0 (h : WfZ L) (a : 0 ≤ v) (b : v ≤ 9) : WfZ (setz L 0 v) := by
  obtain ⟨h0, h1, h2, h3, h4, h5, h6, h7, h8, h9, h10⟩ := h
  exact ⟨⟨by show -1 ≤ v; omega, b⟩, h1, h2, h3, h4, h5, h6, h7, h8, h9, h10⟩
theorem wz1 (h : WfZ L) (a : 0 ≤ v) (b : v ≤ 4) : WfZ (setz L 1 v) := by
  obtain ⟨h0, h1, h2, h3, h4, h5, h6, h7, h8, h9, h10⟩ := h
  exact ⟨h0, ⟨a, b⟩, h2, h3, h4, h5, h6, h7, h8, h9, h10⟩
theorem wz2 (h : WfZ L) (a : 0 ≤ v) (b : v ≤ 9) : WfZ (setz L 2 v) := by
  obtain ⟨h0, h1, h2, h3, h4, h5, h6, h7, h8, h9, h10⟩ := h
  exact ⟨h0, h1, ⟨a, b⟩, h3, h4, h5, h6, h7, h8, h9, h10⟩
theorem wz3 (h : WfZ L) (a : 0 ≤ v) (b : v ≤ 9) : WfZ (setz L 3 v) := by
  obtain ⟨h0, h1, h2, h3, h4, h5, h6, h7, h8, h9, h10⟩ := h
  exact ⟨h0, h1, h2, ⟨a, b⟩, h4, h5, h6, h7, h8, h9, h10⟩
theorem wz4 (h : WfZ L) (a : 0 ≤ v) (b : v ≤ 9) : WfZ (setz L 4 v) := by
  obtain ⟨h0, h1, h2, h3, h4, h5, h6, h7, h8, h9, h10⟩ := h
  exact ⟨h0, h1, h2, h3, ⟨a, b⟩, h5, h6, h7, h8, h9, h10⟩
theorem wz5 (h : WfZ L) (a : 0 ≤ v) (b : v ≤ 9) : WfZ (setz L 5 v) := by
  obtain ⟨h0, h1, h2, h3, h4, h5, h6, h7, h8, h9, h10⟩ := h
  exact ⟨h0, h1, h2, h3, h4, ⟨a, b⟩, h6, h7, h8, h9, h10⟩
theorem wz6 (h : WfZ L) (a : 1 ≤ v) (b : v ≤ 99) : WfZ (setz L 6 v) := by
  obtain ⟨h0, h1, h2, h3, h4, h5, h6, h7, h8, h9, h10⟩ := h
  exact ⟨h0, h1, h2, h3, h4, h5, ⟨a, b⟩, h7, h8, h9, h10⟩
theorem wz7 (h : WfZ L) (a : 1 ≤ v) (b : v ≤ 4) : WfZ (setz L 7 v) := by
  obtain ⟨h0, h1, h2, h3, h4, h5, h6, h7, h8, h9, h10⟩ := h
  exact ⟨h0, h1, h2, h3, h4, h5, h6, ⟨a, b⟩, h8, h9, h10⟩
theorem wz8 (h : WfZ L) (a : 0 ≤ v) (b : v ≤ 9) : WfZ (setz L 8 v) := by
  obtain ⟨h0, h1, h2, h3, h4, h5, h6, h7, h8, h9, h10⟩ := h
  exact ⟨h0, h1, h2, h3, h4, h5, h6, h7, ⟨a, b⟩, h9, h10⟩
theorem wz9 (h : WfZ L) (a : 0 ≤ v) (b : v < Ln L) (d : Lpk L v = true) : WfZ (setz L 9 v) := by
  obtain ⟨h0, h1, h2, h3, h4, h5, h6, h7, h8, h9, h10⟩ := h
  exact ⟨h0, h1, h2, h3, h4, h5, h6, h7, h8, Or.inr ⟨a, b, d⟩, h10⟩
theorem wz10 (h : WfZ L) (a : 0 ≤ v) (b : v ≤ 4) : WfZ (setz L 10 v) := by
  obtain ⟨h0, h1, h2, h3, h4, h5, h6, h7, h8, h9, h10⟩ := h
  exact ⟨h0, h1, h2, h3, h4, h5, h6, h7, h8, h9, ⟨a, b⟩⟩
theorem bNum_ok {i : Nat} {lo hi : Int} {x : Tk × Gs} (h : bNum T i lo hi t g = .ok x) : x.2.2 = g.2 := by
  unfold bNum at h
  split at h
  · exact absurd h (by intro z; cases z)
  · cases h
    rfl
theorem sh_p (h : RdC M p) (hp : p = 96 ∨ p = 150) : gO 2 (M 4 4) := by
  rw [h.2.2.2.2.1]
  have := shL hp
  exact ⟨this.1, by rw [this.2.1]⟩
theorem s69 {Q : Mem → Prop} {d : Int} (hp : p = 96 ∨ p = 150) (hS : StC M p T fp (.ok (t, g))) (hR : RdC M p) (hd : d = 5 ∨ d = 6 ∨ d = 7 ∨ d = 8 ∨ d = 10) (hm : d = 8 → g.2.2.2.1 3 = true) (hQ : ∀ M' : Mem, FrD p M M' → StC M' p T fp (body T d t g) → Q M') : WV 69 [vR 4, vI d] M Q := by
  have hp' : 96 ≤ p := by rcases hp with rfl | rfl <;> decide
  have n8 : ∀ {r : Rs (Tk × Gs)} {i : Nat}, i ≠ 8 → ∀ x, r = .ok x → x.2.2.2.2.1 3 = false → i ≠ 8 := fun a _ _ _ => a
  refine t_69 o4 ⟨by omega, ?_⟩
  rcases hd with rfl | rfl | rfl | rfl | rfl
  · rw [if_neg (by decide), if_pos rfl]
    refine s76s hp' hS hR (i := 0) (by decide) (by decide) (by decide) (fun L v a b c => wz0 a b c) (n8 (by decide)) (fun M1 v f1 h1 => ⟨sh_p hR hp, ?_⟩)
    rw [hR.2.2.2.2.1]
    exact hQ _ (f1.tr (FrD.sz (i := 0) hp')) h1
  · rw [if_neg (by decide), if_neg (by decide), if_pos rfl]
    refine s76s hp' hS hR (i := 1) (by decide) (by decide) (by decide) (fun L v a b c => wz1 a b c) (n8 (by decide)) (fun M1 v f1 h1 => ⟨sh_p hR hp, ?_⟩)
    rw [hR.2.2.2.2.1]
    have f2 : FrD p M (upM M1 p 8 v) := f1.tr (FrD.sz (i := 1) hp')
    have R2 := hR.fr hp' f2
    refine s76s hp' (M := upM M1 p 8 v) h1 R2 (i := 2) (by decide) (by decide) (by decide) (fun L v a b c => wz2 a b c) (n8 (by decide)) (fun M3 w f3 h3 => ⟨sh_p R2 hp, ?_⟩)
    rw [R2.2.2.2.2.1]
    exact hQ _ (f2.tr (f3.tr (FrD.sz (i := 2) hp'))) h3
  · rw [if_neg (by decide), if_neg (by decide), if_neg (by decide), if_pos rfl]
    refine s76s hp' hS hR (i := 3) (by decide) (by decide) (by decide) (fun L v a b c => wz3 a b c) (n8 (by decide)) (fun M1 v f1 h1 => ⟨sh_p hR hp, ?_⟩)
    rw [hR.2.2.2.2.1]
    have f2 : FrD p M (upM M1 p 10 v) := f1.tr (FrD.sz (i := 3) hp')
    have R2 := hR.fr hp' f2
    refine s76s hp' (M := upM M1 p 10 v) h1 R2 (i := 4) (by decide) (by decide) (by decide) (fun L v a b c => wz4 a b c) (n8 (by decide)) (fun M3 w f3 h3 => ⟨sh_p R2 hp, ?_⟩)
    rw [R2.2.2.2.2.1]
    have f4 : FrD p M (upM M3 p 11 w) := f2.tr (f3.tr (FrD.sz (i := 4) hp'))
    have R4 := hR.fr hp' f4
    refine s76s hp' (M := upM M3 p 11 w) h3 R4 (i := 5) (by decide) (by decide) (by decide) (fun L v a b c => wz5 a b c) (n8 (by decide)) (fun M5 u f5 h5 => ⟨sh_p R4 hp, ?_⟩)
    rw [R4.2.2.2.2.1]
    have f6 : FrD p M (upM M5 p 12 u) := f4.tr (f5.tr (FrD.sz (i := 5) hp'))
    have R6 := hR.fr hp' f6
    refine s76s hp' (M := upM M5 p 12 u) h5 R6 (i := 6) (by decide) (by decide) (by decide) (fun L v a b c => wz6 a b c) (n8 (by decide)) (fun M7 x f7 h7 => ⟨sh_p R6 hp, ?_⟩)
    rw [R6.2.2.2.2.1]
    exact hQ _ (f6.tr (f7.tr (FrD.sz (i := 6) hp'))) h7
  · rw [if_neg (by decide), if_neg (by decide), if_neg (by decide), if_neg (by decide), if_pos rfl]
    have hm := hm rfl
    refine s76s hp' hS hR (i := 7) (by decide) (by decide) (by decide) (fun L v a b c => wz7 a b c) (n8 (by decide)) (fun M1 v f1 h1 => ⟨sh_p hR hp, ?_⟩)
    rw [hR.2.2.2.2.1]
    have f2 : FrD p M (upM M1 p 14 v) := f1.tr (FrD.sz (i := 7) hp')
    have R2 := hR.fr hp' f2
    have h1 : StC (upM M1 p 14 v) p T fp (bNum T 7 1 4 t g) := h1
    have hB : body T 8 t g = thn (bNum T 7 1 4 t g) fun t g => if t.1 = 2 then bNum T 8 0 9 t g else .ok (t, setz g.1 8 0, g.2) := rfl
    rw [hB] at hQ
    have hok : ∀ x, bNum T 7 1 4 t g = .ok x → x.2.2.2.2.1 3 = true := fun x hx => by rw [bNum_ok hx]; exact hm
    generalize upM M1 p 14 v = N at *
    rw [R2.1]
    generalize bNum T 7 1 4 t g = r1 at *
    cases r1 with
    | error e =>
      obtain ⟨he, t', ht⟩ := h1
      have k4 := ht.2.2.2.2.2.2.1
      rw [ht.2.1.1]
      refine ⟨o2.1, by omega, ?_⟩
      by_cases q : t'.1 = 2
      · rw [if_pos q]
        refine s76s hp' (r := .error e) (fp := fp) ⟨he, t', ht⟩ R2 (i := 8) (by decide) (by decide) (by decide) (fun L v a b c => wz8 a b c) (fun x hx => by cases hx) (fun M3 w f3 h3 => ⟨sh_p R2 hp, ?_⟩)
        rw [R2.2.2.2.2.1]
        exact hQ _ (f2.tr (f3.tr (FrD.sz (i := 8) hp'))) h3
      · rw [if_neg q]
        refine ⟨sh_p R2 hp, ?_⟩
        rw [R2.2.2.2.2.1]
        exact hQ _ (f2.tr (FrD.sz (i := 8) hp')) ⟨he, t', ht.fr (upM_o (by omega)) (upM_o (by omega))⟩
    | ok x =>
      obtain ⟨t1, g1⟩ := x
      have hx := hok _ rfl
      have ht := h1.1
      have k4 := ht.2.2.2.2.2.2.1
      rw [ht.2.1.1]
      refine ⟨o2.1, by omega, ?_⟩
      by_cases q : t1.1 = 2
      · rw [if_pos q]
        refine s76s hp' h1 R2 (i := 8) (by decide) (by decide) (by decide) (fun L v a b c => wz8 a b c) (fun x hx' z => by cases hx'; rw [hx] at z; cases z) (fun M3 w f3 h3 => ⟨sh_p R2 hp, ?_⟩)
        rw [R2.2.2.2.2.1]
        refine hQ _ (f2.tr (f3.tr (FrD.sz (i := 8) hp'))) ?_
        show StC _ p T fp (if t1.1 = 2 then bNum T 8 0 9 t1 g1 else .ok (t1, setz g1.1 8 0, g1.2))
        rw [if_pos q]
        exact h3
      · rw [if_neg q]
        refine ⟨sh_p R2 hp, ?_⟩
        rw [R2.2.2.2.2.1]
        refine hQ _ (f2.tr (FrD.sz (i := 8) hp')) ?_
        show StC _ p T fp (if t1.1 = 2 then bNum T 8 0 9 t1 g1 else .ok (t1, setz g1.1 8 0, g1.2))
        rw [if_neg q]
        exact StC.sz hp' h1 (by decide) (wz8 h1.2.2.2.1.2.2 (by decide) (by decide)) (fun _ _ => rfl)
  · rw [if_neg (by decide), if_neg (by decide), if_neg (by decide), if_neg (by decide), if_neg (by decide)]
    refine s76s hp' hS hR (i := 10) (by decide) (by decide) (by decide) (fun L v a b c => wz10 a b c) (n8 (by decide)) (fun M1 v f1 h1 => ⟨sh_p hR hp, ?_⟩)
    rw [hR.2.2.2.2.1]
    exact hQ _ (f1.tr (FrD.sz (i := 10) hp')) h1
end CB
