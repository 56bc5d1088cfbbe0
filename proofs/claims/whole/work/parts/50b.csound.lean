/-! the class's directives: a sound, a cost: the whole of them -/
section CS2
variable {M M' N : Mem} {ft fp p : Int} {T : List Int} {t : Tk} {L : Lw} {g : Gs}
theorem tl70 {Q : Mem → Prop} {ch : Int} (hp : p = 96 ∨ p = 150) (h : TpR N T t ft fp) (hf : 0 ≤ ft ∧ ft ≤ 5) (hR : RdC N p) (hL : LawIs N p L) (hn : Ln L < 16) (hQ : ∀ (N' : Mem) (t' : Tk) (ft' fp' v : Int) (pk : Bool), FrK N N' → TpR N' T t' ft' fp' → Aft ft fp (nEr T (nx T t) 0 9) (nx T t).2.1 ft' fp' → (0 ≤ v ∧ v ≤ 9) → (nEr T (nx T t) 0 9 = 0 → v = nmv T (nx T t).2.1 (nx T t).2.2 ∧ pk = isK T (nx T (nx T t)) 11 ∧ t' = if pk = true then nx T (nx T (nx T t)) else nx T (nx T t)) → Q (addM N' p (Ln L) ch v (b2i pk))) : (shA SH (N 4 0)).1 = 9 ∧ WV 128 [vR (N 4 0)] N (fun M8 => WI 76 [vR 4, vI 0, vI 9] M8 (fun y11 M10 => ((shA SH (M10 4 0)).1 = 9) ∧ WI 133 [vR (M10 4 0), vR (-12)] M10 (fun y13 M12 => inR y13 ∧ (if y13 = 0 then ((gO 2 (M12 4 4)) ∧ ((shA SH (M12 (M12 4 4) 0)).1 = 6) ∧ WV 89 [vR (M12 (M12 4 4) 0), vI ch, vI y11, vI y13] M12 (fun M15 => Q M15)) else (((shA SH (M12 4 0)).1 = 9) ∧ WV 128 [vR (M12 4 0)] M12 (fun M17 => (gO 2 (M17 4 4)) ∧ ((shA SH (M17 (M17 4 4) 0)).1 = 6) ∧ WV 89 [vR (M17 (M17 4 4) 0), vI ch, vI y11, vI y13] M17 (fun M19 => Q M19))))))) := by
  have hp' : 96 ≤ p := by rcases hp with rfl | rfl <;> decide
  have sh2 : (shA SH 2).1 = 9 := o2.1.2
  have sh := shL hp
  have sh6 : (shA SH (p + 1)).1 = 6 := by rw [sh.2.2.1]
  have o2p : gO 2 p := ⟨sh.1, by rw [sh.2.1]⟩
  have eqp : ∀ {N' : Mem}, FrK N N' → RdC N' p ∧ LawIs N' p L := fun f => ⟨hR.fr hp' (f.d hp'), hL.eq (fun k a _ => f.1 k (by omega))⟩
  rw [hR.1]
  refine ⟨sh2, s128n h (fun M1 f1 h1 => ?_)⟩
  have R1 := (eqp f1).1
  refine s76 h1 R1.1 hf (by decide) (by decide) (fun M2 v t2 ft2 fp2 f2 h2 hv ha hv2 => ?_)
  obtain ⟨R2, L2⟩ := eqp (f1.tr f2)
  have nr := @nEr_r T (nx T t) 0 9
  rw [R2.1]
  refine ⟨sh2, ?_⟩
  rw [s133k (i := 11) h2 (by decide) (by decide)]
  refine ⟨by have := b2i_r (isK T t2 11); omega, ?_⟩
  cases hk : isK T t2 11
  · rw [if_pos (by decide), R2.2.2.2.2.1, show M2 p 0 = p + 1 from L2.2.1.1]
    refine ⟨o2p, sh6, s89 hp L2 L2.n.1 (by omega) (by decide) (hQ M2 t2 ft2 fp2 v false (f1.tr f2) h2 ha hv (fun z => ?_))⟩
    obtain ⟨z1, z2⟩ := hv2 z
    rw [z2] at hk
    exact ⟨z1, hk.symm, z2⟩
  · rw [if_neg (by decide), R2.1]
    refine ⟨sh2, s128n h2 (fun M3 f3 h3 => ?_)⟩
    obtain ⟨R3, L3⟩ := eqp ((f1.tr f2).tr f3)
    rw [R3.2.2.2.2.1, show M3 p 0 = p + 1 from L3.2.1.1]
    refine ⟨o2p, sh6, s89 hp L3 L3.n.1 (by omega) (by decide) (hQ M3 (nx T t2) ft2 fp2 v true ((f1.tr f2).tr f3) h3 ha hv (fun z => ?_))⟩
    obtain ⟨z1, z2⟩ := hv2 z
    rw [z2] at hk
    exact ⟨z1, hk.symm, by rw [if_pos rfl, z2]; rfl⟩
theorem s70 {Q : Mem → Prop} (hp : p = 96 ∨ p = 150) (hS : StC M p T fp (.ok (t, g))) (hR : RdC M p) (hn : Ln g.1 < 16) (hQ : ∀ M' : Mem, FrD p M M' → StC M' p T fp (bSound T t g) → Q M') : WV 70 [vR 4] M Q := by
  have hp' : 96 ≤ p := by rcases hp with rfl | rfl <;> decide
  have sh2 : (shA SH 2).1 = 9 := o2.1.2
  have sh := shL hp
  have sh6 : (shA SH (p + 1)).1 = 6 := by rw [sh.2.2.1]
  have o2p : gO 2 p := ⟨sh.1, by rw [sh.2.1]⟩
  obtain ⟨ht, hb, hf, hg⟩ : TpR M T t 0 fp ∧ TbC M p g ∧ Fl M g ∧ GsOk g := hS
  have ok := ht.2.2
  have k4 := ok.2.2.2.2.1
  have wr := @wrg_r t
  unfold bSound at hQ
  refine t_70 o4 ?_
  rw [hR.1, ht.2.1.1]
  refine ⟨o2.1, by omega, ?_⟩
  by_cases q1 : t.1 = 1
  rotate_left
  · rw [if_neg q1]
    refine ⟨sh2, s126 ht (by decide) (fun M1 f1 h1 => ?_)⟩
    have := hQ M1 (f1.d hp')
    rw [if_pos q1] at this
    rw [if_pos rfl, if_pos rfl] at h1
    exact this ⟨⟨wr.1, (show wrg t ≤ 5 by omega)⟩, t, h1⟩
  obtain ⟨l1, l2, l3⟩ := ok.2.1 q1
  have br := l3 0 (by omega)
  rw [Nat.add_zero] at br
  rw [if_pos q1]
  refine ⟨sh2, ?_⟩
  have e132 := fun {P : Int → Mem → Prop} => s132 (Q := P) (j := 0) ht.1 ht.2.1.2 ok.1 (by omega)
  rw [Nat.add_zero, show sgn (bt T t.2.1) = bt T t.2.1 by unfold sgn; rw [if_pos (by omega)]] at e132
  rw [show WI 132 [vR 2, vI 0] M = WI 132 [vR 2, vI ((0 : Nat) : Int)] M from rfl, e132, hR.1, ht.2.1.2.2]
  refine ⟨o2.1, by omega, ?_⟩
  have q1' : ¬ t.1 ≠ 1 := fun z => z q1
  rw [if_neg q1'] at hQ
  -- a fault first, the rest of the directive behind it
  have bad : ∀ x : Int, 1 ≤ x ∧ x ≤ 5 → (∀ M' : Mem, FrD p M M' → StC M' p T fp (.error (x, (t.2.1 : Int))) → Q M') → ∀ M1 : Mem, FrK M M1 → TpR M1 T t (if (0 : Int) = 0 then x else 0) (if (0 : Int) = 0 then (t.2.1 : Int) else fp) → (shA SH (M1 4 0)).1 = 9 ∧ WV 128 [vR (M1 4 0)] M1 (fun M8 => WI 76 [vR 4, vI 0, vI 9] M8 (fun y11 M10 => ((shA SH (M10 4 0)).1 = 9) ∧ WI 133 [vR (M10 4 0), vR (-12)] M10 (fun y13 M12 => inR y13 ∧ (if y13 = 0 then ((gO 2 (M12 4 4)) ∧ ((shA SH (M12 (M12 4 4) 0)).1 = 6) ∧ WV 89 [vR (M12 (M12 4 4) 0), vI (bt T t.2.1), vI y11, vI y13] M12 (fun M15 => Q M15)) else (((shA SH (M12 4 0)).1 = 9) ∧ WV 128 [vR (M12 4 0)] M12 (fun M17 => (gO 2 (M17 4 4)) ∧ ((shA SH (M17 (M17 4 4) 0)).1 = 6) ∧ WV 89 [vR (M17 (M17 4 4) 0), vI (bt T t.2.1), vI y11, vI y13] M17 (fun M19 => Q M19))))))) := fun x hx hE M1 f1 h1 => by
    rw [if_pos rfl, if_pos rfl] at h1
    refine tl70 hp h1 (by omega) (hR.fr hp' (f1.d hp')) (hb.1.eq (fun k a _ => f1.1 k (by omega))) hn (fun N' t' ft' fp' v pk f h2 ha hv _ => hE _ ((f1.tr f).d hp' |>.tr (FrD.am hp')) ⟨hx, t', ?_⟩)
    obtain ⟨y1, y2⟩ := ha.1 (by omega)
    rw [y1, y2] at h2
    exact h2.fr (addM_o ⟨by omega, by omega, by omega, by omega⟩) (addM_o ⟨by omega, by omega, by omega, by omega⟩)
  by_cases q2 : t.2.2 = 1
  rotate_left
  · rw [if_neg (by omega)]
    rw [if_pos q2] at hQ
    exact ⟨sh2, s125 ht (by decide) (bad 4 (by decide) hQ)⟩
  rw [if_pos (by omega), hR.2.2.2.2.1, show M p 0 = p + 1 from hb.1.2.1.1]
  rw [if_neg (fun z => z q2)] at hQ
  refine ⟨o2p, sh6, ?_⟩
  rw [s91 hb.1 (by omega)]
  have nr := num_r g.1 (bt T t.2.1)
  refine ⟨by omega, ?_⟩
  by_cases q3 : numOf g.1 (bt T t.2.1) = -1
  rotate_left
  · rw [if_neg q3, hR.1]
    rw [if_pos q3] at hQ
    exact ⟨sh2, s125 ht (by decide) (bad 3 (by decide) hQ)⟩
  rw [if_pos q3]
  rw [if_neg (fun z => z q3)] at hQ
  refine tl70 hp ht (by decide) hR hb.1 hn (fun N' t' ft' fp' v pk f h2 ha hv hv2 => hQ _ ((f.d hp').tr (FrD.am hp')) ?_)
  obtain ⟨y1, y2⟩ := ha.2 rfl
  have er := @nEr_r T (nx T t) 0 9
  have a2 := addM_o (M := N') (p := p) (n := Ln g.1) (ch := bt T t.2.1) (op := v) (pk := b2i pk) (k := 2) ⟨by omega, by omega, by omega, by omega⟩
  have a3 := addM_o (M := N') (p := p) (n := Ln g.1) (ch := bt T t.2.1) (op := v) (pk := b2i pk) (k := 3) ⟨by omega, by omega, by omega, by omega⟩
  by_cases q4 : nEr T (nx T t) 0 9 = 0
  rotate_left
  · rw [if_pos q4]
    rw [y1, y2, if_neg q4] at h2
    exact ⟨⟨(show 1 ≤ nEr T (nx T t) 0 9 by omega), er.2⟩, t', h2.fr a2 a3⟩
  rw [if_neg (fun z => z q4)]
  obtain ⟨v1, v2, v3⟩ := hv2 q4
  rw [y1, y2, q4, if_pos rfl] at h2
  rw [← v2, ← v3, ← v1]
  have hw : Wf (addS g.1 (bt T t.2.1 - 97) v pk) := wf_addS hg.1 hn (by omega) hv (by rw [show bt T t.2.1 - 97 + 97 = bt T t.2.1 by omega]; exact q3)
  have hL := (hb.1.eq (M' := N') (fun k a _ => f.1 k (by omega))).aS (ch := bt T t.2.1 - 97) (op := v) (pk := pk) hw
  rw [show bt T t.2.1 - 97 + 97 = bt T t.2.1 by omega] at hL
  refine ⟨h2.fr a2 a3, ⟨hL, wrdP_L (L := g.1) (hb.2.1.kp (fun k a b => by rw [addM_o ⟨by omega, by omega, by omega, by omega⟩, f.1 k (by omega)])) (fun l hl => ?_), fun i a b => by rw [addM_o ⟨by omega, by omega, by omega, by omega⟩, f.1 (p + 53) (by omega)]; exact hb.2.2 i a b⟩, fun i a b => by rw [addM_o ⟨by omega, by omega, by omega, by omega⟩, f.1 8 (by decide)]; exact hf i a b, hw, on_addS hg.2.1, hg.2.2⟩
  obtain ⟨i, hi, rfl⟩ := List.getElem_of_mem hl
  have := (hg.2.1 i hi).2.2
  rw [List.getD_eq_getElem?_getD, List.getElem?_eq_getElem hi] at this
  exact lead_addS this
theorem a8 : shA SH 8 = (22, 6) := by decide +kernel
theorem s73 {Q : Mem → Prop} (hp : p = 96 ∨ p = 150) (hS : StC M p T fp (.ok (t, g))) (hR : RdC M p) (hQ : ∀ M' : Mem, FrD p M M' → StC M' p T fp (bCost T t g) → Q M') : WV 73 [vR 4] M Q := by
  have hp' : 96 ≤ p := by rcases hp with rfl | rfl <;> decide
  have sh2 : (shA SH 2).1 = 9 := o2.1.2
  have sh := shL hp
  have shp : (shA SH p).1 = 2 := by rw [sh.2.1]
  obtain ⟨ht, hb, hf, hg⟩ : TpR M T t 0 fp ∧ TbC M p g ∧ Fl M g ∧ GsOk g := hS
  have wr := @wrg_r t
  have nm := @nam_r T t
  unfold bCost at hQ
  have bad : (∀ M' : Mem, FrD p M M' → StC M' p T fp (.error (wrg t, (t.2.1 : Int))) → Q M') → (shA SH 2).1 = 9 ∧ WV 126 [vR 2] M (fun M4 => Q M4) := fun hE => by
    refine ⟨sh2, s126 ht (by decide) (fun M1 f1 h1 => hE M1 (f1.d hp') ⟨⟨wr.1, (show wrg t ≤ 5 by omega)⟩, t, ?_⟩)⟩
    rw [if_pos rfl, if_pos rfl] at h1
    exact h1
  refine t_73 o4 ?_
  rw [s74 ht hR.1, hR.1, hR.2.2.2.1, a8]
  refine ⟨by omega, ?_⟩
  by_cases q1 : namOf T t < 0
  · rw [if_pos q1]
    rw [if_pos q1] at hQ
    exact bad hQ
  rw [if_neg q1]
  rw [if_neg q1] at hQ
  refine ⟨⟨by decide, by decide, by decide, by decide⟩, by decide, ?_⟩
  rw [if_neg (by show ¬ ((6 : Nat) : Int) ≤ _; omega)]
  have g8 : gA 22 8 (namOf T t) := ⟨by rw [a8], by omega, by rw [a8]; show _ < ((6 : Nat) : Int); omega⟩
  have e8 := hf (namOf T t) (by omega) (by omega)
  have b8 := b2i_r (g.2.2.2.2 (namOf T t))
  rw [e8]
  refine ⟨Or.inr g8, by omega, ?_⟩
  cases hs : g.2.2.2.2 (namOf T t)
  rotate_left
  · rw [if_neg (by decide)]
    rw [hs, if_pos rfl] at hQ
    exact bad hQ
  rw [if_pos (by decide)]
  rw [hs, if_neg (by decide)] at hQ
  generalize namOf T t = n at *
  have f0 : FrD p M (upM M 8 n 1) := FrD.of hp' (fun k a b => upM_o (by omega)) (fun k _ _ _ a => upM_o a) (fun j _ => by rw [upM_o (by decide)]) (by rw [upM_o (by decide)])
  have R0 := hR.fr hp' f0
  have h0 := ht.fr (M' := upM M 8 n 1) (upM_o (by decide)) (upM_o (by decide))
  have o0 : ∀ k : Int, k ≠ 8 → upM M 8 n 1 k = M k := fun k a => upM_o a
  have b0 : TbC (upM M 8 n 1) p g := hb.eq (fun k a _ => o0 k (by omega))
  have s0 : ∀ i : Int, upM M 8 n 1 8 i = if i = n then 1 else M 8 i := fun i => by
    by_cases q : i = n
    · rw [if_pos q, q, upM_s]
    · rw [if_neg q, upM_f q]
  generalize upM M 8 n 1 = N at *
  rw [R0.1]
  refine ⟨Or.inr g8, sh2, s128n h0 (fun M1 f1 h1 => ?_)⟩
  have R1 := R0.fr hp' (f1.d hp')
  refine s76 h1 R1.1 (by decide) (by decide) (by decide) (fun M2 v t2 ft2 fp2 f2 h2 hv ha hv2 => ?_)
  have f12 := f1.tr f2
  have b2 : TbC M2 p g := b0.eq (fun k a _ => f12.1 k (by omega))
  rw [R1.2.2.2.2.1]
  refine ⟨shp, s42 b2.1 ⟨by omega, by omega⟩ (hQ _ (f0.tr ((f12.d hp').tr (FrD.c hp' (by omega) (by omega)))) ?_)⟩
  obtain ⟨y1, y2⟩ := ha.2 rfl
  have er := @nEr_r T (nx T t) 0 999
  have o : ∀ k : Int, k ≠ p + 53 → upM M2 (p + 53) n v k = M2 k := fun k a => upM_o a
  by_cases q4 : nEr T (nx T t) 0 999 = 0
  rotate_left
  · rw [if_pos q4]
    have q4' : ¬ nEr T (nxt T (t.2.1 + t.2.2)) 0 999 = 0 := q4
    rw [y1, y2, if_neg q4'] at h2
    exact ⟨⟨(show 1 ≤ nEr T (nx T t) 0 999 by omega), er.2⟩, t2, h2.fr (o 2 (by omega)) (o 3 (by omega))⟩
  rw [if_neg (fun z => z q4)]
  obtain ⟨v1, v2⟩ := hv2 q4
  have q4' : nEr T (nxt T (t.2.1 + t.2.2)) 0 999 = 0 := q4
  rw [y1, y2, if_pos q4', q4', v2] at h2
  have v1' : v = nmv T (nx T t).2.1 (nx T t).2.2 := v1
  rw [← v1']
  refine ⟨h2.fr (o 2 (by omega)) (o 3 (by omega)), ⟨?_, b2.2.1.kp (fun k a b => o k (by omega)), fun i a b => ?_⟩, fun i a b => ?_, hg.1, hg.2.1, hg.2.2.1, fun i a b => ?_, hg.2.2.2.2⟩
  · have hL := b2.1
    show LawIs _ p g.1
    unfold LawIs PtrL SndIs TldIs NumIs at hL ⊢
    rw [o p (by omega), o (p + 1) (by omega), o (p + 2) (by omega), o (p + 3) (by omega), o (p + 4) (by omega), o (p + 8) (by omega), o (p + 51) (by omega), o (p + 52) (by omega)]
    exact hL
  · show _ = updC g.2.2.1 n v i ∧ 0 ≤ updC g.2.2.1 n v i ∧ updC g.2.2.1 n v i ≤ 999
    unfold updC
    by_cases q : i = n
    · rw [if_pos q, q, upM_s]
      exact ⟨rfl, hv⟩
    · rw [if_neg q, upM_f q]
      exact b2.2.2 i a b
  · show _ = b2i (setB g.2.2.2.2 n i)
    rw [o 8 (by omega), f12.1 8 (by decide), s0]
    unfold setB
    by_cases q : i = n
    · rw [if_pos q, if_pos q]
      rfl
    · rw [if_neg q, if_neg q]
      exact hf i a b
  · show 0 ≤ updC g.2.2.1 n v i ∧ updC g.2.2.1 n v i ≤ 999
    unfold updC
    by_cases q : i = n
    · rw [if_pos q]
      exact hv
    · rw [if_neg q]
      exact hg.2.2.2.1 i a b
end CS2
