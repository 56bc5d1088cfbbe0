/-! the model's directives that tell numbers -/
section MNN
variable {M M' : Mem} {fp : Int} {T : List Int} {t : Tk} {g : Gs} {r : Rs (Tk × Gs)} {L : Lw}
theorem up_n {a b v c d : Int} (h : c ≠ a ∨ d ≠ b) : upM M a b v c d = M c d := if_neg (by omega)
/-- where the numbers of a law stand while they are told -/
def zc : Nat → Int × Int
  | 0 => (204, 18)
  | 1 => (204, 19)
  | 2 => (204, 20)
  | 3 => (217, 0)
  | 4 => (217, 1)
  | 5 => (217, 2)
  | 6 => (217, 3)
  | 7 => (204, 23)
  | 8 => (204, 24)
  | 9 => (204, 21)
  | _ => (204, 22)
theorem zc_r : ∀ i : Nat, i < 11 → ((zc i).1 = 204 ∧ 18 ≤ (zc i).2 ∧ (zc i).2 ≤ 24) ∨ (zc i).1 = 217 := by decide
theorem zc_i : ∀ i : Nat, i < 11 → ∀ j : Nat, j < 11 → i ≠ j → (zc j).1 ≠ (zc i).1 ∨ (zc j).2 ≠ (zc i).2 := by decide
theorem stz_j : StgZ M L ↔ ∀ j : Nat, j < 11 → M (zc j).1 (zc j).2 = Lz L j := by
  constructor
  · intro ⟨h0, h1, h2, h9, h10, h7, h8, h3, h4, h5, h6⟩ j hj
    have : j = 0 ∨ j = 1 ∨ j = 2 ∨ j = 3 ∨ j = 4 ∨ j = 5 ∨ j = 6 ∨ j = 7 ∨ j = 8 ∨ j = 9 ∨ j = 10 := by omega
    rcases this with rfl | rfl | rfl | rfl | rfl | rfl | rfl | rfl | rfl | rfl | rfl
    · exact h0
    · exact h1
    · exact h2
    · exact h3
    · exact h4
    · exact h5
    · exact h6
    · exact h7
    · exact h8
    · exact h9
    · exact h10
  · intro h
    exact ⟨h 0 (by decide), h 1 (by decide), h 2 (by decide), h 9 (by decide), h 10 (by decide), h 7 (by decide), h 8 (by decide), h 3 (by decide), h 4 (by decide), h 5 (by decide), h 6 (by decide)⟩
theorem StM.e {e : Int × Int} (h : StM M T fp (.error e)) (f : ∀ j : Int, (j ≤ 9 ∨ j = 12 ∨ j = 13) → M' 204 j = M 204 j) (e5 : M' 205 = M 205) (e6 : M' 206 = M 206) : StM M' T fp (.error e) := by
  obtain ⟨he, t, ht⟩ := h
  exact ⟨he, t, ht.o f e5 e6⟩
theorem Stg.z {i : Nat} {v : Int} (h : Stg M g) (hi : i < 11) (hz : WfZ (setz g.1 i v)) (h8 : g.2.2.2.1 3 = false → i = 8 → v = 0) : Stg (upM M (zc i).1 (zc i).2 v) (setz g.1 i v, g.2) := by
  obtain ⟨h1, h2, h3, h4, h5, h6, h7, g1, g2, g3, g4, g5⟩ := h
  have zr := zc_r i hi
  have u : ∀ d : Int, (d < 18 ∨ 24 < d) → upM M (zc i).1 (zc i).2 v 204 d = M 204 d := fun d a => up_n (by omega)
  have e : ∀ k : Int, k ≠ 204 → k ≠ 217 → upM M (zc i).1 (zc i).2 v k = M k := fun k a b => funext fun d => up_n (by omega)
  refine ⟨?_, ?_, stz_j.mpr fun j hj => ?_, ?_, fun i a b => by rw [e 216 (by decide) (by decide)]; exact h5 i a b, by rw [u 25 (by decide)]; exact h6, by rw [u 26 (by decide)]; exact h7, wf_setz g1 hz, g2, g3, g4, fun z => ?_⟩
  · unfold StgS at h1 ⊢
    rw [u 14 (by decide), e 207 (by decide) (by decide), e 208 (by decide) (by decide), e 209 (by decide) (by decide), e 210 (by decide) (by decide)]
    exact h1
  · unfold StgT SegIs at h2 ⊢
    rw [u 15 (by decide), u 16 (by decide), e 211 (by decide) (by decide), e 212 (by decide) (by decide), e 213 (by decide) (by decide)]
    exact h2
  · show _ = Lz (setz g.1 i v) j
    rw [lz_setz]
    by_cases q : j = i
    · rw [if_pos q, q, upM_s]
    · rw [if_neg q, up_n (zc_i i hi j hj (fun z => q z.symm))]
      exact stz_j.mp h3 j hj
  · unfold StgW SegIs at h4 ⊢
    rw [u 17 (by decide), e 214 (by decide) (by decide), e 215 (by decide) (by decide)]
    exact h4
  · show (if 8 = i then v else Lz g.1 8) = 0
    by_cases q : 8 = i
    · rw [if_pos q]; exact h8 z q.symm
    · rw [if_neg q]; exact g5 z
theorem nEr_in {lo hi : Int} (h : nEr T t lo hi = 0) : lo ≤ nmv T t.2.1 t.2.2 ∧ nmv T t.2.1 t.2.2 ≤ hi := by
  have wr := @wrg_r t
  unfold nEr at h
  split at h
  · omega
  · split at h <;> omega
theorem zc_f {i : Nat} {v : Int} (hi : i < 11) : FrN M (upM M (zc i).1 (zc i).2 v) := by
  have zr := zc_r i hi
  exact ⟨fun k a b => funext fun d => up_n (by omega), fun j a b => up_n (by omega)⟩
theorem m192w {Q : Int → Mem → Prop} {lo hi : Int} {i : Nat} (hS : StM M T fp r) (hi' : i < 11) (hlo : 0 ≤ lo ∧ lo ≤ 999) (hhi : 0 ≤ hi ∧ hi ≤ 999) (hz : ∀ (L : Lw) (v : Int), WfZ L → lo ≤ v → v ≤ hi → WfZ (setz L i v)) (h8 : ∀ x, r = .ok x → x.2.2.2.2.1 3 = false → i ≠ 8) (hQ : ∀ (M1 : Mem) (v : Int), FrJ M M1 → StM (upM M1 (zc i).1 (zc i).2 v) T fp (thn r (bNum T i lo hi)) → Q v M1) : WI 192 [vR 204, vI lo, vI hi] M Q := by
  refine m192s hS hlo hhi (fun M1 v f1 h1 => hQ M1 v f1 ?_)
  have zr := zc_r i hi'
  have u : ∀ j : Int, (j ≤ 9 ∨ j = 12 ∨ j = 13) → upM M1 (zc i).1 (zc i).2 v 204 j = M1 204 j := fun j a => up_n (by omega)
  have e : ∀ k : Int, k ≠ 204 → k ≠ 217 → upM M1 (zc i).1 (zc i).2 v k = M1 k := fun k a b => funext fun d => up_n (by omega)
  cases r with
  | error x =>
    replace h1 : M1 = M := h1
    subst h1
    exact hS.e u (e 205 (by decide) (by decide)) (e 206 (by decide) (by decide))
  | ok x =>
    obtain ⟨t, g⟩ := x
    have nr := @nEr_r T t lo hi
    show StM _ T fp (if nEr T t lo hi ≠ 0 then .error (nEr T t lo hi, t.2.1) else .ok (nx T t, setz g.1 i (nmv T t.2.1 t.2.2), g.2))
    replace h1 : if nEr T t lo hi = 0 then v = nmv T t.2.1 t.2.2 ∧ TmR M1 T (nx T t) 0 fp ∧ Stg M1 g ∧ PtrM M1 else TmR M1 T t (nEr T t lo hi) t.2.1 := h1
    by_cases q : nEr T t lo hi = 0
    · rw [if_neg (fun z => z q)]
      rw [if_pos q] at h1
      obtain ⟨rfl, ht, hs, hp⟩ := h1
      obtain ⟨n1, n2⟩ := nEr_in q
      exact ⟨ht.o u (e 205 (by decide) (by decide)) (e 206 (by decide) (by decide)), hs.z hi' (hz _ _ hs.2.2.2.2.2.2.2.1.2.2 n1 n2) (fun z z8 => absurd z8 (h8 _ rfl z)), hp.fn (zc_f hi')⟩
    · rw [if_pos q]
      rw [if_neg q] at h1
      exact ⟨⟨by show 1 ≤ nEr T t lo hi; omega, nr.2⟩, t, h1.o u (e 205 (by decide) (by decide)) (e 206 (by decide) (by decide))⟩
/-- the tables with other flags -/
theorem Stg.k {sd se : Int → Bool} (h : Stg M g) (e : ∀ k : Int, 207 ≤ k → k ≤ 217 → M' k = M k) (f : ∀ j : Int, 14 ≤ j → j ≤ 24 → M' 204 j = M 204 j) (h25 : M' 204 25 = bits sd) (h26 : M' 204 26 = bits se) (hz : sd 3 = false → Lz g.1 8 = 0) : Stg M' (g.1, g.2.1, g.2.2.1, sd, se) := by
  obtain ⟨h1, h2, h3, h4, h5, h6, h7, g1, g2, g3, g4, g5⟩ := h
  refine ⟨?_, ?_, ?_, ?_, fun i a b => by rw [e 216 (by decide) (by decide)]; exact h5 i a b, h25, h26, g1, g2, g3, g4, hz⟩
  · unfold StgS at h1 ⊢
    rw [f 14 (by decide) (by decide), e 207 (by decide) (by decide), e 208 (by decide) (by decide), e 209 (by decide) (by decide), e 210 (by decide) (by decide)]
    exact h1
  · unfold StgT SegIs at h2 ⊢
    rw [f 15 (by decide) (by decide), f 16 (by decide) (by decide), e 211 (by decide) (by decide), e 212 (by decide) (by decide), e 213 (by decide) (by decide)]
    exact h2
  · unfold StgZ at h3 ⊢
    rw [f 18 (by decide) (by decide), f 19 (by decide) (by decide), f 20 (by decide) (by decide), f 21 (by decide) (by decide), f 22 (by decide) (by decide), f 23 (by decide) (by decide), f 24 (by decide) (by decide), e 217 (by decide) (by decide)]
    exact h3
  · unfold StgW SegIs at h4 ⊢
    rw [f 17 (by decide) (by decide), e 214 (by decide) (by decide), e 215 (by decide) (by decide)]
    exact h4
/-- told once -/
def onc (T : List Int) (d : Int) (t : Tk) (g : Gs) : Rs (Tk × Gs) := if full g d = true then .error (2, t.2.1) else .ok (nx T t, mark g d)
theorem full_5 {d : Int} (hd : 5 ≤ d) : full g d = g.2.2.2.1 (d - 5) := by
  unfold full
  rw [if_neg (by omega), if_neg (by omega), if_neg (by omega), if_neg (by omega), if_neg (by omega)]
theorem m198s {Q : Mem → Prop} {d i : Int} (hS : StM M T fp (.ok (t, g))) (h1 : t.1 = 1) (hd : 5 ≤ d ∧ d ≤ 10) (hi : i = d - 5) (hQ : ∀ M' : Mem, FrN M M' → StM M' T fp (onc T d t g) → Q M') : WV 198 [vR 204, vI i] M Q := by
  obtain ⟨ht, hs, hp⟩ : TmR M T t 0 fp ∧ Stg M g ∧ PtrM M := hS
  subst hi
  have fl := @full_5 g d hd.1
  refine m198 ht h1 (by omega) hs.2.2.2.2.2.1 (fun M1 f1 g1 h => ?_)
  have F : FrN M M1 := ⟨fun k a b => f1 k a (by omega), fun j a b => g1 j a (by omega) (by omega)⟩
  refine hQ M1 F ?_
  unfold onc
  rw [fl]
  by_cases q : g.2.2.2.1 (d - 5) = true
  · rw [if_pos q] at h ⊢
    exact ⟨⟨(show (1 : Int) ≤ 2 by decide), (show (2 : Int) ≤ 5 by decide)⟩, t, h⟩
  · rw [if_neg q] at h ⊢
    have em : mark g d = (g.1, g.2.1, g.2.2.1, setB g.2.2.2.1 (d - 5), g.2.2.2.2) := if_neg (by omega)
    rw [em]
    refine ⟨h.1, hs.k (fun k a b => f1 k (by omega) (by omega)) (fun j a b => g1 j (by omega) (by omega) (by omega)) h.2 (by rw [g1 26 (by decide) (by decide) (by decide)]; exact hs.2.2.2.2.2.2.1) (fun z => ?_), hp.fn F⟩
    refine hs.2.2.2.2.2.2.2.2.2.2.2 ?_
    unfold setB at z
    split at z
    · cases z
    · exact z
/-- the semicolon -/
theorem m191s {Q : Mem → Prop} (hS : StM M T fp r) (hQ : ∀ M' : Mem, FrJ M M' → StM M' T fp (fin T r) → Q M') : WV 191 [vR 204, vI 3] M Q := by
  cases r with
  | error e =>
    obtain ⟨he, t, ht⟩ := hS
    exact m191f ht.2.2.2.1 he (hQ M FrJ.rf ⟨he, t, ht⟩)
  | ok x =>
    obtain ⟨t, g⟩ := x
    obtain ⟨ht, hs, hp⟩ : TmR M T t 0 fp ∧ Stg M g ∧ PtrM M := hS
    have er := @eEr_r t
    refine m191 ht (fun M1 f1 h1 => hQ M1 f1 ?_)
    show StM M1 T fp (if eEr t ≠ 0 then .error (eEr t, t.2.1) else .ok (nx T t, g))
    by_cases q : eEr t = 0
    · rw [if_neg (fun z => z q)]
      rw [if_pos q] at h1
      exact ⟨h1, hs.j f1, hp.fn f1.n⟩
    · rw [if_pos q]
      rw [if_neg q] at h1
      exact ⟨⟨(show 1 ≤ eEr t by omega), er.2⟩, t, h1⟩
theorem m189e {Q : Int → Mem → Prop} {e : Int × Int} (hS : StM M T fp (.error e)) : WI 189 [vR 204] M Q = Q 0 M := by
  obtain ⟨he, t, ht⟩ := hS
  rw [m189 ht.2.2.2.1 (by omega), decide_eq_false (by omega)]
  rfl
theorem m189o {Q : Int → Mem → Prop} {x : Tk × Gs} (hS : StM M T fp (.ok x)) : WI 189 [vR 204] M Q = Q 1 M := by
  rw [m189 hS.1.2.2.2.1 (by decide)]
  rfl
theorem m205 {Q : Mem → Prop} (hS : StM M T fp (.ok (t, g))) (h1 : t.1 = 1) (hQ : ∀ M' : Mem, FrN M M' → StM M' T fp (thn (onc T 5 t g) (body T 5)) → Q M') : WV 205 [vR 204] M Q := by
  refine t_205 o204 (m198s (d := 5) hS h1 (by decide) rfl (fun M1 f1 s1 => ?_))
  refine m192w s1 (i := 0) (by decide) (by decide) (by decide) (fun L v a b c => wz0 a b c) (fun _ _ _ => by decide) (fun M2 v f2 s2 => ?_)
  exact hQ _ (f1.tr (f2.n.tr (zc_f (i := 0) (by decide)))) s2
theorem m206 {Q : Mem → Prop} (hS : StM M T fp (.ok (t, g))) (h1 : t.1 = 1) (hQ : ∀ M' : Mem, FrN M M' → StM M' T fp (thn (onc T 10 t g) (body T 10)) → Q M') : WV 206 [vR 204] M Q := by
  refine t_206 o204 (m198s (d := 10) hS h1 (by decide) rfl (fun M1 f1 s1 => ?_))
  refine m192w s1 (i := 10) (by decide) (by decide) (by decide) (fun L v a b c => wz10 a b c) (fun _ _ _ => by decide) (fun M2 v f2 s2 => ?_)
  exact hQ _ (f1.tr (f2.n.tr (zc_f (i := 10) (by decide)))) s2
theorem thn_a {f h : Tk → Gs → Rs (Tk × Gs)} : thn (thn r f) h = thn r (fun t g => thn (f t g) h) := by
  cases r <;> rfl
theorem m200 {Q : Mem → Prop} (hS : StM M T fp (.ok (t, g))) (h1 : t.1 = 1) (hQ : ∀ M' : Mem, FrN M M' → StM M' T fp (thn (onc T 6 t g) (body T 6)) → Q M') : WV 200 [vR 204] M Q := by
  refine t_200 o204 (m198s (d := 6) hS h1 (by decide) rfl (fun M1 f1 s1 => ?_))
  refine m192w s1 (i := 1) (by decide) (by decide) (by decide) (fun L v a b c => wz1 a b c) (fun _ _ _ => by decide) (fun M2 v f2 s2 => ?_)
  refine m192w (M := upM M2 204 19 v) s2 (i := 2) (by decide) (by decide) (by decide) (fun L v a b c => wz2 a b c) (fun _ _ _ => by decide) (fun M3 w f3 s3 => ?_)
  refine hQ _ (f1.tr (f2.n.tr ((zc_f (i := 1) (v := v) (by decide)).tr (f3.n.tr (zc_f (i := 2) (v := w) (by decide)))))) ?_
  rw [thn_a] at s3
  exact s3
theorem z217 : shA SH 217 = (20, 4) := by decide +kernel
theorem m201 {Q : Mem → Prop} (hP : PtrM M) (hS : StM M T fp (.ok (t, g))) (h1 : t.1 = 1) (hQ : ∀ M' : Mem, FrN M M' → StM M' T fp (thn (onc T 7 t g) (body T 7)) → Q M') : WV 201 [vR 204] M Q := by
  refine t_201 o204 (m198s (d := 7) hS h1 (by decide) rfl (fun M1 f1 s1 => ?_))
  have p1 : M1 204 37 = 217 := (hP.fn f1).at (by decide)
  refine t_201_7 o204 ⟨by decide, ?_⟩
  rw [if_neg (by decide), p1]
  refine m192w s1 (i := 3) (by decide) (by decide) (by decide) (fun L v a b c => wz3 a b c) (fun _ _ _ => by decide) (fun M2 v f2 s2 => ⟨gC z217 (by decide) (by decide), ?_⟩)
  have f2 : FrN M (upM M2 217 0 v) := f1.tr (f2.n.tr (zc_f (i := 3) (v := v) (by decide)))
  have p2 : upM M2 217 0 v 204 37 = 217 := (hP.fn f2).at (by decide)
  refine t_201_7 o204 ⟨by decide, ?_⟩
  rw [if_neg (by decide), p2]
  refine m192w (M := upM M2 217 0 v) s2 (i := 4) (by decide) (by decide) (by decide) (fun L v a b c => wz4 a b c) (fun _ _ _ => by decide) (fun M3 w f3 s3 => ⟨gC z217 (by decide) (by decide), ?_⟩)
  have f3 : FrN M (upM M3 217 1 w) := f2.tr (f3.n.tr (zc_f (i := 4) (v := w) (by decide)))
  have p3 : upM M3 217 1 w 204 37 = 217 := (hP.fn f3).at (by decide)
  refine t_201_7 o204 ⟨by decide, ?_⟩
  rw [if_neg (by decide)]
  refine m192w (M := upM M3 217 1 w) s3 (i := 5) (by decide) (by decide) (by decide) (fun L v a b c => wz5 a b c) (fun _ _ _ => by decide) (fun M4 x f4 s4 => ?_)
  rw [show upM M3 217 (0 + 1) w 204 37 = 217 from p3]
  refine ⟨gC z217 (by decide) (by decide), ?_⟩
  have f4 : FrN M (upM M4 217 2 x) := f3.tr (f4.n.tr (zc_f (i := 5) (v := x) (by decide)))
  have p4 : upM M4 217 2 x 204 37 = 217 := (hP.fn f4).at (by decide)
  refine t_201_7 o204 ⟨by decide, ?_⟩
  rw [if_pos (by decide)]
  refine m192w (M := upM M4 217 2 x) s4 (i := 6) (by decide) (by decide) (by decide) (fun L v a b c => wz6 a b c) (fun _ _ _ => by decide) (fun M5 y f5 s5 => ?_)
  rw [show upM M4 217 (0 + 1 + 1) x 204 37 = 217 from p4]
  refine ⟨gC z217 (by decide) (by decide), hQ _ (f4.tr (f5.n.tr (zc_f (i := 6) (v := y) (by decide)))) ?_⟩
  rw [thn_a, thn_a, thn_a] at s5
  have eb : body T 7 = fun t g => thn (bNum T 3 0 9 t g) (fun t g => thn (bNum T 4 0 9 t g) (fun t g => thn (bNum T 5 0 9 t g) (bNum T 6 1 99))) := by
    funext t g
    show thn (thn (thn (bNum T 3 0 9 t g) (bNum T 4 0 9)) (bNum T 5 0 9)) (bNum T 6 1 99) = _
    rw [thn_a, thn_a]
  rw [eb]
  exact s5
theorem m202 {Q : Mem → Prop} (hS : StM M T fp (.ok (t, g))) (h1 : t.1 = 1) (hQ : ∀ M' : Mem, FrN M M' → StM M' T fp (thn (onc T 8 t g) (body T 8)) → Q M') : WV 202 [vR 204] M Q := by
  have g8 : Stg M g := hS.2.1
  refine t_202 o204 (m198s (d := 8) hS h1 (by decide) rfl (fun M1 f1 s1 => ?_))
  refine m192w s1 (i := 7) (by decide) (by decide) (by decide) (fun L v a b c => wz7 a b c) (fun _ _ _ => by decide) (fun M2 v f2 s2 => ?_)
  have f2 : FrN M (upM M2 204 23 v) := f1.tr (f2.n.tr (zc_f (i := 7) (v := v) (by decide)))
  replace s2 : StM (upM M2 204 23 v) T fp (thn (onc T 8 t g) (bNum T 7 1 4)) := s2
  have eb : thn (onc T 8 t g) (body T 8) = thn (thn (onc T 8 t g) (bNum T 7 1 4)) (fun t g => if t.1 = 2 then bNum T 8 0 9 t g else .ok (t, setz g.1 8 0, g.2)) := by
    rw [thn_a]
    rfl
  rw [eb] at hQ
  generalize upM M2 204 23 v = N at *
  have key : ∀ x, thn (onc T 8 t g) (bNum T 7 1 4) = .ok x → x.2.2.2.2.1 3 = true ∧ setz x.2.1 8 0 = x.2.1 := fun x hx => by
    obtain ⟨y, hy, hy2⟩ := thn_ok hx
    unfold onc at hy
    have fl := @full_5 g 8 (by decide)
    by_cases q : full g 8 = true
    · rw [if_pos q] at hy
      cases hy
    · rw [if_neg q] at hy
      cases hy
      have z3 : g.2.2.2.1 3 = false := by
        rw [fl] at q
        cases hh : g.2.2.2.1 3
        · rfl
        · exact absurd hh q
      have z8 := g8.2.2.2.2.2.2.2.2.2.2.2 z3
      have := if_ok hy2
      cases this
      refine ⟨rfl, ?_⟩
      show setz (setz g.1 7 _) 8 0 = setz g.1 7 _
      unfold setz
      congr 6
      funext j
      show (if j = 8 then (0 : Int) else Lz (setz g.1 7 _) j) = if j = 7 then _ else Lz g.1 j
      by_cases q8 : j = 8
      · rw [if_pos q8, q8, if_neg (by decide)]; exact z8.symm
      · rw [if_neg q8]; rfl
  generalize thn (onc T 8 t g) (bNum T 7 1 4) = r1 at *
  cases r1 with
  | error e =>
    rw [m189e s2]
    refine ⟨by decide, ?_⟩
    rw [if_pos rfl]
    exact hQ N f2 s2
  | ok x =>
    obtain ⟨t1, g1⟩ := x
    obtain ⟨k3, k8⟩ := key _ rfl
    replace k8 : setz g1.1 8 0 = g1.1 := k8
    have ht : TmR N T t1 0 fp := s2.1
    obtain ⟨k4, e5, -, -, -⟩ := ht.sp
    rw [m189o s2, e5]
    refine ⟨by decide, ?_⟩
    rw [if_neg (by decide)]
    refine ⟨by omega, ?_⟩
    have hQ : ∀ M' : Mem, FrN M M' → StM M' T fp (if t1.1 = 2 then bNum T 8 0 9 t1 g1 else .ok (t1, setz g1.1 8 0, g1.2)) → Q M' := hQ
    by_cases q : t1.1 = 2
    · rw [if_pos q]
      rw [if_pos q] at hQ
      refine m192w s2 (i := 8) (by decide) (by decide) (by decide) (fun L v a b c => wz8 a b c) (fun x hx z => by cases hx; exact absurd (k3.symm.trans z) (by decide)) (fun M3 w f3 s3 => ?_)
      exact hQ _ (f2.tr (f3.n.tr (zc_f (i := 8) (v := w) (by decide)))) s3
    · rw [if_neg q]
      rw [if_neg q, k8] at hQ
      exact hQ N f2 s2
end MNN
