/-! the class's directives: openings told, glides -/
section CT
variable {M M' : Mem} {fp p : Int} {T : List Int} {t : Tk} {L : Lw} {g : Gs}
theorem sub_full {l : List Int} : sub l 0 l.length = l := by
  unfold sub
  simp
theorem LawIs.aG {a b : Int} (h : LawIs M p L) (hw : Wf (addG L a b)) : LawIs (upM (upM M (p + 52) (Lgl L).length (a * 16 + b)) p 6 ((Lgl L).length + 1)) p (addG L a b) := by
  obtain ⟨a1, a2, a3, ⟨b1, b2, b3, b4⟩, a5, a6⟩ := h
  have o : ∀ k : Int, k ≠ p → k ≠ p + 52 → upM (upM M (p + 52) (Lgl L).length (a * 16 + b)) p 6 ((Lgl L).length + 1) k = M k := fun k x y => by rw [upM_o x, upM_o y]
  have f : ∀ j : Int, j ≠ 6 → upM (upM M (p + 52) (Lgl L).length (a * 16 + b)) p 6 ((Lgl L).length + 1) p j = M p j := fun j x => by rw [upM_f x, upM_o (by omega)]
  refine ⟨a1, ?_, ?_, ⟨by rw [f 5 (by decide)]; exact b1, fun i hi => by rw [o (p + 51) (by omega) (by omega)]; exact b2 i hi, ?_, fun i hi => ?_⟩, num_j.mpr fun j hj => by rw [f _ (by omega)]; exact num_j.mp a5 j hj, hw⟩
  · unfold PtrL at a2 ⊢
    rw [f 0 (by decide), f 1 (by decide), f 2 (by decide), f 3 (by decide), f 4 (by decide), o (p + 1) (by omega) (by omega), o (p + 8) (by omega) (by omega)]
    exact a2
  · unfold SndIs at a3 ⊢
    rw [o (p + 1) (by omega) (by omega), o (p + 2) (by omega) (by omega), o (p + 3) (by omega) (by omega), o (p + 4) (by omega) (by omega)]
    exact a3
  · rw [upM_s]
    show _ = (((Lgl L ++ [(a, b)]).length : Nat) : Int)
    rw [List.length_append, List.length_singleton]
    rfl
  · replace hi : i < (Lgl L ++ [(a, b)]).length := hi
    rw [List.length_append, List.length_singleton] at hi
    show _ = 16 * ((Lgl L ++ [(a, b)]).getD i (0, 0)).1 + ((Lgl L ++ [(a, b)]).getD i (0, 0)).2
    rw [upM_o (by omega), List.getD_eq_getElem?_getD, List.getElem?_append]
    by_cases q : i < (Lgl L).length
    · rw [if_pos q, upM_f (by omega), ← List.getD_eq_getElem?_getD]
      exact b4 i q
    · rw [if_neg q, show i = (Lgl L).length by omega, upM_s, Nat.sub_self]
      show a * 16 + b = 16 * a + b
      omega
theorem s45 {Q : Mem → Prop} {n a b : Int} (hp : p = 96 ∨ p = 150) (h3 : M p 3 = p + 52) (h6 : M p 6 = n) (hn : 0 ≤ n ∧ n < 6) (hQ : Q (upM (upM M (p + 52) n (a * 16 + b)) p 6 (n + 1))) : WV 45 [vR p, vI a, vI b] M Q := by
  have sh := shL hp
  have o : gO 2 p := ⟨sh.1, by rw [sh.2.1]⟩
  refine t_45 o ?_
  rw [h6, h3]
  refine ⟨by omega, ?_⟩
  have e6 : upM M (p + 52) n (a * 16 + b) p 6 = n := by rw [upM_o (by omega)]; exact h6
  rw [if_neg (by omega), e6]
  exact ⟨⟨by rw [sh.2.2.2.2.2.2.2.2.2.2.2.2.2.1], hn.1, by rw [sh.2.2.2.2.2.2.2.2.2.2.2.2.2.1]; exact hn.2⟩, hQ⟩
theorem s71 {Q : Mem → Prop} (hp : p = 96 ∨ p = 150) (hS : StC M p T fp (.ok (t, g))) (hR : RdC M p) (hn : (Ltd g.1).length < 12) (hQ : ∀ M' : Mem, FrD p M M' → StC M' p T fp (bTold T t g) → Q M') : WV 71 [vR 4] M Q := by
  have hp' : 96 ≤ p := by rcases hp with rfl | rfl <;> decide
  have sh2 : (shA SH 2).1 = 9 := o2.1.2
  have sh5 : (shA SH 5).1 = 5 := by rw [r5.2.1]
  have o5 : gO 5 5 := ⟨by decide, sh5⟩
  have sh := shL hp
  have shp : (shA SH p).1 = 2 := by rw [sh.2.1]
  have ok : TkOk T t := hS.1.2.2
  unfold bTold at hQ
  refine t_71 o4 ?_
  refine rows75 (lo := 2) (hi := 4) hp' hS hR (by decide) (by decide) (fun M1 f1 e h1 => ⟨by decide, ?_⟩) (fun M1 f1 e h1 k1 => ⟨by decide, ?_⟩)
  · have := hQ M1 f1
    rw [if_pos e] at this
    rw [if_pos rfl]
    exact this h1
  rw [if_neg (by decide)]
  obtain ⟨ht, hb, hf, hg⟩ : TpR M1 T t 0 fp ∧ TbC M1 p g ∧ Fl M1 g ∧ GsOk g := h1
  have R1 := hR.fr hp' (f1.d hp')
  obtain ⟨q1, q2, q3, q4, q5⟩ := rEr_ok ok e
  rw [R1.2.1, k1.1.2.2.1]
  refine ⟨o5, sh5, ?_⟩
  rw [s83 k1.1 (by decide) (by omega) (by omega), sub_full, R1.2.2.2.2.1]
  refine ⟨shp, ?_⟩
  rw [s44 hb.1 k1.1.2.2.2.2.1 (by omega), R1.1, R1.2.2.2.2.1]
  have bb := b2i_r (decide (cds g.1 T t ∈ Ltd g.1))
  have l5 : M1 p 5 = (Ltd g.1).length := hb.1.2.2.2.1.1
  have l2 : M1 p 2 = p + 51 := hb.1.2.1.2.2.1
  refine ⟨by omega, ?_⟩
  by_cases q : cds g.1 T t ∈ Ltd g.1
  · rw [decide_eq_true q, if_neg (by decide)]
    refine ⟨sh2, s125 ht (by decide) (fun M2 f2 h2 => ?_)⟩
    rw [if_pos rfl, if_pos rfl] at h2
    have R2 := R1.fr hp' (f2.d hp')
    rw [R2.2.2.2.2.1]
    refine ⟨shp, s43 (n := ((Ltd g.1).length : Int)) hp (by rw [f2.1 p (by omega)]; exact l2) (by rw [f2.1 p (by omega)]; exact l5) (by omega) ?_⟩
    have f3 : FrD p M2 (upM (upM M2 (p + 51) (Ltd g.1).length (keyOf (cds g.1 T t))) p 5 ((Ltd g.1).length + 1)) := (FrD.c hp' (by omega) (by omega)).tr (FrD.n hp' (by decide))
    have h3 := h2.fr (M' := upM (upM M2 (p + 51) (Ltd g.1).length (keyOf (cds g.1 T t))) p 5 ((Ltd g.1).length + 1)) (by rw [upM_o (by omega), upM_o (by omega)]) (by rw [upM_o (by omega), upM_o (by omega)])
    rw [(R2.fr hp' f3).1]
    refine ⟨sh2, s128n h3 (fun M4 f4 h4 => ?_)⟩
    have := hQ M4 ((f1.d hp').tr ((f2.d hp').tr (f3.tr (f4.d hp'))))
    rw [if_neg (fun z => z e), if_pos q] at this
    exact this ⟨⟨(show (1 : Int) ≤ 4 by decide), (show (4 : Int) ≤ 5 by decide)⟩, _, h4⟩
  · rw [decide_eq_false q, if_pos (by decide)]
    refine ⟨shp, s43 hp l2 l5 (by omega) ?_⟩
    have f3 : FrD p M1 (upM (upM M1 (p + 51) (Ltd g.1).length (keyOf (cds g.1 T t))) p 5 ((Ltd g.1).length + 1)) := (FrD.c hp' (by omega) (by omega)).tr (FrD.n hp' (by decide))
    have h3 := ht.fr (M' := upM (upM M1 (p + 51) (Ltd g.1).length (keyOf (cds g.1 T t))) p 5 ((Ltd g.1).length + 1)) (by rw [upM_o (by omega), upM_o (by omega)]) (by rw [upM_o (by omega), upM_o (by omega)])
    have hw : Wf (addT g.1 (cds g.1 T t)) := wf_addT hg.1 hn ⟨by omega, by omega, fun s hs => ⟨(q5 s hs).1.1, (q5 s hs).1.2, (q5 s hs).2.1 rfl⟩⟩
    have hL := hb.1.aT (l := cds g.1 T t) hw
    have e3 : ∀ k : Int, k ≠ p → k ≠ p + 51 → upM (upM M1 (p + 51) (Ltd g.1).length (keyOf (cds g.1 T t))) p 5 ((Ltd g.1).length + 1) k = M1 k := fun k x y => by rw [upM_o x, upM_o y]
    have R3 := R1.fr hp' f3
    generalize upM (upM M1 (p + 51) (Ltd g.1).length (keyOf (cds g.1 T t))) p 5 ((Ltd g.1).length + 1) = N at *
    rw [R3.1]
    refine ⟨sh2, s128n h3 (fun M4 f4 h4 => ?_)⟩
    have := hQ M4 ((f1.d hp').tr (f3.tr (f4.d hp')))
    rw [if_neg (fun z => z e), if_neg q] at this
    refine this ⟨h4, ⟨hL.eq (fun k a _ => f4.1 k (by omega)), wrdP_L (L := g.1) (hb.2.1.kp (fun k a b => by rw [f4.1 k (by omega), e3 k (by omega) (by omega)])) (fun l _ => rfl), fun i a b => by rw [f4.1 (p + 53) (by omega), e3 (p + 53) (by omega) (by omega)]; exact hb.2.2 i a b⟩, fun i a b => by rw [f4.1 8 (by decide), e3 8 (by omega) (by omega)]; exact hf i a b, hw, hg.2⟩
theorem s72 {Q : Mem → Prop} (hp : p = 96 ∨ p = 150) (hS : StC M p T fp (.ok (t, g))) (hR : RdC M p) (hn : (Lgl g.1).length < 6) (hQ : ∀ M' : Mem, FrD p M M' → StC M' p T fp (bGlide T t g) → Q M') : WV 72 [vR 4] M Q := by
  have hp' : 96 ≤ p := by rcases hp with rfl | rfl <;> decide
  have sh2 : (shA SH 2).1 = 9 := o2.1.2
  have sh5 : (shA SH 5).1 = 5 := by rw [r5.2.1]
  have sh := shL hp
  have shp : (shA SH p).1 = 2 := by rw [sh.2.1]
  have ok : TkOk T t := hS.1.2.2
  unfold bGlide at hQ
  refine t_72 o4 ?_
  refine rows75 (lo := 2) (hi := 2) hp' hS hR (by decide) (by decide) (fun M1 f1 e h1 => ⟨by decide, ?_⟩) (fun M1 f1 e h1 k1 => ⟨by decide, ?_⟩)
  · have := hQ M1 f1
    rw [if_pos e] at this
    rw [if_pos rfl]
    exact this h1
  rw [if_neg (by decide)]
  obtain ⟨ht, hb, hf, hg⟩ : TpR M1 T t 0 fp ∧ TbC M1 p g ∧ Fl M1 g ∧ GsOk g := h1
  have R1 := hR.fr hp' (f1.d hp')
  obtain ⟨q1, q2, q3, q4, q5⟩ := rEr_ok ok e
  have hw16 := hg.1.1.1
  have mm : ∀ i : Nat, i < 2 → gi (cds g.1 T t) i ∈ cds g.1 T t := fun i hi => by
    unfold gi
    rw [if_pos (by omega), List.getD_eq_getElem?_getD, Int.toNat_natCast, List.getElem?_eq_getElem (show i < (cds g.1 T t).length by omega)]
    exact List.getElem_mem _
  obtain ⟨⟨x1, x2⟩, -, x3⟩ := q5 _ (mm 0 (by decide))
  obtain ⟨⟨y1, y2⟩, -, y3⟩ := q5 _ (mm 1 (by decide))
  have x3 := x3 rfl
  have y3 := y3 rfl
  rw [R1.2.1]
  refine ⟨sh5, ?_⟩
  rw [s82 k1.1 (by decide), R1.2.1]
  refine ⟨sh5, ?_⟩
  rw [s82 k1.1 (by decide), R1.1, R1.2.2.2.2.1]
  change 0 ≤ gi (cds g.1 T t) 0 at x1
  change gi (cds g.1 T t) 0 < _ at x2
  change Lpk g.1 (gi (cds g.1 T t) 0) = true at x3
  change 0 ≤ gi (cds g.1 T t) 1 at y1
  change gi (cds g.1 T t) 1 < _ at y2
  change Lpk g.1 (gi (cds g.1 T t) 1) = true at y3
  generalize gi (cds g.1 T t) 0 = a at *
  generalize gi (cds g.1 T t) 1 = b at *
  have l6 : M1 p 6 = (Lgl g.1).length := hb.1.2.2.2.1.2.2.1
  have l3 : M1 p 3 = p + 52 := hb.1.2.1.2.2.2.1
  have bad : (a = b ∨ (a, b) ∈ Lgl g.1) → (shA SH 2).1 = 9 ∧ WV 125 [vR 2, vI 4] M1 (fun M2 => (shA SH (M2 4 4)).1 = 2 ∧ WV 45 [vR (M2 4 4), vI a, vI b] M2 (fun M3 => (shA SH (M3 4 0)).1 = 9 ∧ WV 128 [vR (M3 4 0)] M3 Q)) := fun q => by
    refine ⟨sh2, s125 ht (by decide) (fun M2 f2 h2 => ?_)⟩
    rw [if_pos rfl, if_pos rfl] at h2
    have R2 := R1.fr hp' (f2.d hp')
    rw [R2.2.2.2.2.1]
    refine ⟨shp, s45 (n := ((Lgl g.1).length : Int)) hp (by rw [f2.1 p (by omega)]; exact l3) (by rw [f2.1 p (by omega)]; exact l6) (by omega) ?_⟩
    have f3 : FrD p M2 (upM (upM M2 (p + 52) (Lgl g.1).length (a * 16 + b)) p 6 ((Lgl g.1).length + 1)) := (FrD.c hp' (by omega) (by omega)).tr (FrD.n hp' (by decide))
    have h3 := h2.fr (M' := upM (upM M2 (p + 52) (Lgl g.1).length (a * 16 + b)) p 6 ((Lgl g.1).length + 1)) (by rw [upM_o (by omega), upM_o (by omega)]) (by rw [upM_o (by omega), upM_o (by omega)])
    rw [(R2.fr hp' f3).1]
    refine ⟨sh2, s128n h3 (fun M4 f4 h4 => ?_)⟩
    have := hQ M4 ((f1.d hp').tr ((f2.d hp').tr (f3.tr (f4.d hp'))))
    rw [if_neg (fun z => z e), if_pos q] at this
    exact this ⟨⟨(show (1 : Int) ≤ 4 by decide), (show (4 : Int) ≤ 5 by decide)⟩, _, h4⟩
  refine ⟨by omega, by omega, ?_⟩
  by_cases q0 : a = b
  · rw [if_pos q0]
    exact bad (Or.inl q0)
  rw [if_neg q0]
  refine ⟨shp, ?_⟩
  rw [s46 hb.1 ⟨x1, by omega⟩ ⟨y1, by omega⟩, R1.1, R1.2.2.2.2.1]
  have bb := b2i_r (decide ((a, b) ∈ Lgl g.1))
  refine ⟨by omega, ?_⟩
  by_cases q : (a, b) ∈ Lgl g.1
  · rw [decide_eq_true q, if_neg (by decide)]
    exact bad (Or.inr q)
  · rw [decide_eq_false q, if_pos (by decide)]
    refine ⟨shp, s45 hp l3 l6 (by omega) ?_⟩
    have f3 : FrD p M1 (upM (upM M1 (p + 52) (Lgl g.1).length (a * 16 + b)) p 6 ((Lgl g.1).length + 1)) := (FrD.c hp' (by omega) (by omega)).tr (FrD.n hp' (by decide))
    have h3 := ht.fr (M' := upM (upM M1 (p + 52) (Lgl g.1).length (a * 16 + b)) p 6 ((Lgl g.1).length + 1)) (by rw [upM_o (by omega), upM_o (by omega)]) (by rw [upM_o (by omega), upM_o (by omega)])
    have hw : Wf (addG g.1 a b) := wf_addG hg.1 hn ⟨x1, x2, y1, y2, x3, y3⟩
    have hL := hb.1.aG (a := a) (b := b) hw
    have e3 : ∀ k : Int, k ≠ p → k ≠ p + 52 → upM (upM M1 (p + 52) (Lgl g.1).length (a * 16 + b)) p 6 ((Lgl g.1).length + 1) k = M1 k := fun k x y => by rw [upM_o x, upM_o y]
    have R3 := R1.fr hp' f3
    generalize upM (upM M1 (p + 52) (Lgl g.1).length (a * 16 + b)) p 6 ((Lgl g.1).length + 1) = N at *
    rw [R3.1]
    refine ⟨sh2, s128n h3 (fun M4 f4 h4 => ?_)⟩
    have := hQ M4 ((f1.d hp').tr (f3.tr (f4.d hp')))
    rw [if_neg (fun z => z e), if_neg (fun z => z.elim q0 q)] at this
    refine this ⟨h4, ⟨hL.eq (fun k a _ => f4.1 k (by omega)), wrdP_L (L := g.1) (hb.2.1.kp (fun k a b => by rw [f4.1 k (by omega), e3 k (by omega) (by omega)])) (fun l _ => rfl), fun i a b => by rw [f4.1 (p + 53) (by omega), e3 (p + 53) (by omega) (by omega)]; exact hb.2.2 i a b⟩, fun i a b => by rw [f4.1 8 (by decide), e3 8 (by omega) (by omega)]; exact hf i a b, hw, hg.2⟩
end CT
