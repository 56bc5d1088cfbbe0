/-! the class's directives that read rows: words, help, openings told, glides -/
section CW
variable {M M' : Mem} {fp p : Int} {T : List Int} {t : Tk} {L : Lw} {g : Gs} {pk : Int} {lo hi : Nat}
theorem rEr_r : 0 ≤ rEr L T t pk lo hi ∧ rEr L T t pk lo hi ≤ 5 := by
  have wr := @wrg_r t
  unfold rEr
  split
  · omega
  · split
    · omega
    · split <;> omega
theorem rEr_ok (ok : TkOk T t) (h : rEr L T t pk lo hi = 0) : t.1 = 1 ∧ lo ≤ t.2.2 ∧ t.2.2 ≤ hi ∧ (cds L T t).length = t.2.2 ∧ ∀ a ∈ cds L T t, (0 ≤ a ∧ a < Ln L) ∧ (pk = 1 → Lpk L a = false) ∧ (pk = 2 → Lpk L a = true) := by
  have wr := @wrg_r t
  unfold rEr at h
  split at h
  · omega
  · rename_i q1
    split at h
    · omega
    · rename_i q2
      split at h
      · omega
      · rename_i q3
        refine ⟨by omega, by omega, by omega, cds_len ok, fun a ha => ?_⟩
        have hb : badA L pk a = false := by
          cases hb : badA L pk a
          · rfl
          · exact absurd (List.any_eq_true.mpr ⟨a, ha, hb⟩) q2
        unfold badA at hb
        rw [Bool.or_eq_false_iff, Bool.or_eq_false_iff] at hb
        obtain ⟨⟨b1, b2⟩, b3⟩ := hb
        have a1 := of_decide_eq_false b1
        obtain ⟨x, hx, ex⟩ := List.mem_map.mp ha
        have nr := num_r L x
        rw [ex] at nr
        have pe : pkn L a = Lpk L a := by
          unfold pkn
          rw [decide_eq_true (show 0 ≤ a ∧ a < Ln L from ⟨nr.2.2 a1, nr.2.1⟩)]
          rfl
        rw [pe] at b2 b3
        refine ⟨⟨nr.2.2 a1, nr.2.1⟩, fun z => ?_, fun z => ?_⟩
        · rw [decide_eq_true z] at b2
          exact b2
        · rw [decide_eq_true z] at b3
          cases hl : Lpk L a
          · rw [hl] at b3
            exact absurd b3 (by decide)
          · rfl
theorem FrD.c {k j v : Int} (hp : 96 ≤ p) (hk : p ≤ k ∧ k ≤ p + 53) (h : k ≠ p ∧ k ≠ p + 1 ∧ k ≠ p + 8 ∧ ¬ (p + 10 ≤ k ∧ k ≤ p + 49)) : FrD p M (upM M k j v) := by
  have o : ∀ i : Int, i ≠ k → upM M k j v i = M i := fun i a => upM_o a
  exact ⟨fun i _ _ _ _ e => o i (by omega), fun j _ => by rw [o 2 (by omega)], by rw [o 5 (by omega)], fun j a => by rw [o p (by omega)], fun j _ => by rw [o (p + 1) (by omega)], fun j _ => by rw [o (p + 8) (by omega)], fun z => z.fr' (o _ (by omega)) (fun r a b => o r (by omega))⟩
theorem FrD.n {j v : Int} (hp : 96 ≤ p) (hj : 5 ≤ j) : FrD p M (upM M p j v) := by
  have o : ∀ i : Int, i ≠ p → upM M p j v i = M i := fun i a => upM_o a
  exact ⟨fun i _ _ _ _ e => o i (by omega), fun j _ => by rw [o 2 (by omega)], by rw [o 5 (by omega)], fun i a => upM_f (by omega), fun j _ => by rw [o (p + 1) (by omega)], fun j _ => by rw [o (p + 8) (by omega)], fun z => z.fr' (o _ (by omega)) (fun r a b => o r (by omega))⟩
theorem LawIs.aT {l : List Int} (h : LawIs M p L) (hw : Wf (addT L l)) : LawIs (upM (upM M (p + 51) (Ltd L).length (keyOf l)) p 5 ((Ltd L).length + 1)) p (addT L l) := by
  obtain ⟨a1, a2, a3, ⟨b1, b2, b3, b4⟩, a5, a6⟩ := h
  have o : ∀ k : Int, k ≠ p → k ≠ p + 51 → upM (upM M (p + 51) (Ltd L).length (keyOf l)) p 5 ((Ltd L).length + 1) k = M k := fun k a b => by rw [upM_o a, upM_o b]
  have f : ∀ j : Int, j ≠ 5 → upM (upM M (p + 51) (Ltd L).length (keyOf l)) p 5 ((Ltd L).length + 1) p j = M p j := fun j a => by rw [upM_f a, upM_o (by omega)]
  refine ⟨a1, ?_, ?_, ⟨?_, fun i hi => ?_, by rw [f 6 (by decide)]; exact b3, fun i hi => by rw [o (p + 52) (by omega) (by omega)]; exact b4 i hi⟩, num_j.mpr fun j hj => by rw [f _ (by omega)]; exact num_j.mp a5 j hj, hw⟩
  · unfold PtrL at a2 ⊢
    rw [f 0 (by decide), f 1 (by decide), f 2 (by decide), f 3 (by decide), f 4 (by decide), o (p + 1) (by omega) (by omega), o (p + 8) (by omega) (by omega)]
    exact a2
  · unfold SndIs at a3 ⊢
    rw [o (p + 1) (by omega) (by omega), o (p + 2) (by omega) (by omega), o (p + 3) (by omega) (by omega), o (p + 4) (by omega) (by omega)]
    exact a3
  · rw [upM_s]
    show _ = (((Ltd L ++ [l]).length : Nat) : Int)
    rw [List.length_append, List.length_singleton]
    rfl
  · replace hi : i < (Ltd L ++ [l]).length := hi
    rw [List.length_append, List.length_singleton] at hi
    show _ = keyOf ((Ltd L ++ [l]).getD i [])
    rw [upM_o (by omega), getD_app]
    by_cases q : i < (Ltd L).length
    · rw [if_pos q, upM_f (by omega)]
      exact b2 i q
    · rw [if_neg q, show i = (Ltd L).length by omega, upM_s, Nat.sub_self]
      rfl
theorem s43 {Q : Mem → Prop} {n x : Int} (hp : p = 96 ∨ p = 150) (h2 : M p 2 = p + 51) (h5 : M p 5 = n) (hn : 0 ≤ n ∧ n < 12) (hQ : Q (upM (upM M (p + 51) n x) p 5 (n + 1))) : WV 43 [vR p, vL x] M Q := by
  have sh := shL hp
  have o : gO 2 p := ⟨sh.1, by rw [sh.2.1]⟩
  refine t_43 o ?_
  rw [h5, h2]
  refine ⟨by omega, ?_⟩
  have e5 : upM M (p + 51) n x p 5 = n := by rw [upM_o (by omega)]; exact h5
  rw [if_neg (by omega), e5]
  exact ⟨⟨by rw [sh.2.2.2.2.2.2.2.2.2.2.2.2.1], hn.1, by rw [sh.2.2.2.2.2.2.2.2.2.2.2.2.1]; exact hn.2⟩, hQ⟩
theorem StC.err (hp : 96 ≤ p) {ft fp' : Int} (h : TpR M T t ft fp') (hf : 1 ≤ ft ∧ ft ≤ 5) : StC M p T fp (.error (ft, fp')) := ⟨hf, t, h⟩
theorem rows75 {Q : Int → Mem → Prop} (hp : 96 ≤ p) (hS : StC M p T fp (.ok (t, g))) (hR : RdC M p) (hpk : 0 ≤ pk ∧ pk ≤ 2) (hlo : lo ≤ 12 ∧ hi ≤ 12) (hQ0 : ∀ M' : Mem, FrD p M M' → rEr g.1 T t pk lo hi ≠ 0 → StC M' p T fp (.error (rEr g.1 T t pk lo hi, (t.2.1 : Int))) → Q 0 M') (hQ1 : ∀ M' : Mem, FrR M M' → rEr g.1 T t pk lo hi = 0 → StC M' p T fp (.ok (t, g)) → RowK M' g.1 5 (cds g.1 T t) → Q 1 M') : WI 75 [vR 4, vI pk, vI lo, vI hi] M Q := by
  obtain ⟨ht, hb, hf, hg⟩ := hS
  have rr := @rEr_r T t g.1 pk lo hi
  refine s75 ht ⟨hR.1, hR.2.1, hR.2.2.2.2.1⟩ hR.2.2.2.2.2 hb.1 hpk hlo (fun M1 f1 => ?_)
  by_cases q : rEr g.1 T t pk lo hi = 0
  · rw [if_pos q]
    intro ⟨h1, h2⟩
    exact hQ1 M1 f1 q ⟨h1, hb.eq (fun k a _ => f1.1 k (by omega) (by omega) (by omega)), fun i a b => by rw [f1.1 8 (by decide) (by decide) (by decide)]; exact hf i a b, hg⟩ h2
  · rw [if_neg q]
    intro h1
    exact hQ0 M1 (f1.d hp) q ⟨⟨by show 1 ≤ rEr g.1 T t pk lo hi; omega, rr.2⟩, t, h1⟩
theorem GsOk.word (h : GsOk g) {l : List Int} (hl : WordOk g.1 l) (hn : g.2.1.length < 20) : GsOk (g.1, g.2.1 ++ [l], g.2.2) := by
  obtain ⟨g1, g2, g3, g4, g5⟩ := h
  refine ⟨g1, fun i hi => ?_, ?_, g4, g5⟩
  · replace hi : i < (g.2.1 ++ [l]).length := hi
    rw [List.length_append, List.length_singleton] at hi
    show WordOk g.1 ((g.2.1 ++ [l]).getD i [])
    rw [getD_app]
    by_cases q : i < g.2.1.length
    · rw [if_pos q]; exact g2 i q
    · rw [if_neg q, show i = g.2.1.length by omega, Nat.sub_self]; exact hl
  · show (g.2.1 ++ [l]).length ≤ 20
    rw [List.length_append, List.length_singleton]
    omega
theorem FrK.d (hp : 96 ≤ p) (h : FrK M M') : FrD p M M' := h.r.d hp
theorem s68 {Q : Mem → Prop} {d : Int} (hp : p = 96 ∨ p = 150) (hS : StC M p T fp (.ok (t, g))) (hR : RdC M p) (hd : d = 3 ∨ d = 9) (hn : d = 3 → g.2.1.length < 20) (hQ : ∀ M' : Mem, FrD p M M' → StC M' p T fp (body T d t g) → Q M') : WV 68 [vR 4, vI d] M Q := by
  have hp' : 96 ≤ p := by rcases hp with rfl | rfl <;> decide
  have sh2 : (shA SH 2).1 = 9 := o2.1.2
  have sh5 : (shA SH 5).1 = 5 := by rw [r5.2.1]
  have sh := shL hp
  have ok : TkOk T t := hS.1.2.2
  refine t_68 o4 ⟨by omega, ?_⟩
  rcases hd with rfl | rfl
  · have hB : body T 3 t g = bWord T t g := rfl
    rw [hB] at hQ
    unfold bWord at hQ
    rw [if_neg (by decide), if_neg (by decide), if_neg (by decide), if_neg (by decide)]
    refine rows75 (lo := 1) (hi := 12) hp' hS hR (by decide) (by decide) (fun M1 f1 e h1 => ⟨by decide, ?_⟩) (fun M1 f1 e h1 k1 => ⟨by decide, ?_⟩)
    · have := hQ M1 f1
      rw [if_pos e] at this
      rw [if_pos rfl]
      exact this h1
    rw [if_neg (by decide)]
    obtain ⟨ht, ⟨hb1, hb2, hb3⟩, hf, hg⟩ := h1
    have R1 := hR.fr hp' (f1.d hp')
    have p1 : M1 p 1 = p + 8 := hb1.2.1.2.1
    rw [R1.2.2.2.2.1, p1, R1.2.1]
    obtain ⟨q1, q2, q3, q4, q5⟩ := rEr_ok ok e
    refine ⟨hb1.o.1, by rw [sh.2.2.2.2.2.2.2.2.2.1], s137 hb2 k1 (Or.inl (by omega)) (fun M2 f2 => ?_)⟩
    rw [if_pos (hn rfl)]
    intro hW2
    have f2' : FrD p M1 M2 := ⟨fun k _ _ _ _ e => f2.1 k (by omega) (by omega), fun j _ => by rw [f2.1 2 (by omega) (by omega)], by rw [f2.1 5 (by omega) (by omega)], fun j _ => by rw [f2.1 p (by omega) (by omega)], fun j _ => by rw [f2.1 (p + 1) (by omega) (by omega)], f2.2, fun _ => hW2.2⟩
    have R2 := R1.fr hp' f2'
    have hL2 : LawIs M2 p g.1 := by
      unfold LawIs PtrL SndIs TldIs NumIs at hb1 ⊢
      rw [f2.1 p (by omega) (by omega), f2.1 (p + 1) (by omega) (by omega), f2.1 (p + 2) (by omega) (by omega), f2.1 (p + 3) (by omega) (by omega), f2.1 (p + 4) (by omega) (by omega), f2.1 (p + 51) (by omega) (by omega), f2.1 (p + 52) (by omega) (by omega), f2.2 0 (by decide), f2.2 1 (by decide)]
      exact hb1
    have t2 : TpR M2 T t 0 fp := ht.fr (f2.1 2 (by omega) (by omega)) (f2.1 3 (by omega) (by omega))
    rw [R2.1]
    refine ⟨sh2, s128n t2 (fun M3 f3 h3 => ?_)⟩
    refine hQ M3 ((f1.d hp').tr (f2'.tr (f3.d hp'))) ?_
    rw [if_neg (fun z => z e)]
    refine ⟨h3, ⟨hL2.eq (fun k a _ => f3.1 k (by omega)), hW2.kp (fun k a b => f3.1 k (by omega)), fun i a b => by rw [f3.1 (p + 53) (by omega), f2.1 (p + 53) (by omega) (by omega)]; exact hb3 i a b⟩, fun i a b => by rw [f3.1 8 (by decide), f2.1 8 (by omega) (by omega)]; exact hf i a b, hg.word ⟨by omega, by omega, fun s hs => (q5 s hs).1⟩ (hn rfl)⟩
  · have hB : body T 9 t g = bHelp T t g := rfl
    rw [hB] at hQ
    unfold bHelp at hQ
    rw [if_neg (by decide), if_neg (by decide), if_neg (by decide), if_pos rfl]
    refine rows75 (lo := 1) (hi := 1) hp' hS hR (by decide) (by decide) (fun M1 f1 e h1 => ⟨by decide, ?_⟩) (fun M1 f1 e h1 k1 => ⟨by decide, ?_⟩)
    · have := hQ M1 f1
      rw [if_pos e] at this
      rw [if_pos rfl]
      exact this h1
    have R1 := hR.fr hp' (f1.d hp')
    obtain ⟨q1, q2, q3, q4, q5⟩ := rEr_ok ok e
    rw [if_neg (by decide), R1.2.1]
    refine ⟨sh5, ?_⟩
    rw [s82 k1.1 (by decide), R1.2.2.2.2.1]
    have m0 : gi (cds g.1 T t) 0 ∈ cds g.1 T t := by
      unfold gi
      rw [if_pos (by decide), List.getD_eq_getElem?_getD, List.getElem?_eq_getElem (show (0 : Int).toNat < (cds g.1 T t).length by rw [q4]; show 0 < _; omega)]
      exact List.getElem_mem _
    obtain ⟨⟨w1, w2⟩, -, w3⟩ := q5 _ m0
    have h2 := StC.sz (i := 9) (v := gi (cds g.1 T t) 0) hp' h1 (by decide) (wz9 h1.2.2.2.1.2.2 w1 w2 (w3 rfl)) (fun _ z => by cases z)
    have f2 : FrD p M1 (upM M1 p 16 (gi (cds g.1 T t) 0)) := FrD.n hp' (by decide)
    have h2 : StC (upM M1 p 16 (gi (cds g.1 T t) 0)) p T fp (.ok (t, setz g.1 9 (gi (cds g.1 T t) 0), g.2)) := h2
    have R2 := R1.fr hp' f2
    generalize upM M1 p 16 (gi (cds g.1 T t) 0) = N at *
    obtain ⟨ht, hb, hf, hg⟩ := h2
    rw [R2.1]
    refine ⟨⟨sh.1, by rw [sh.2.1]⟩, sh2, s128n ht (fun M3 f3 h3 => ?_)⟩
    refine hQ M3 ((f1.d hp').tr (f2.tr (f3.d hp'))) ?_
    rw [if_neg (fun z => z e)]
    exact ⟨h3, hb.eq (fun k a _ => f3.1 k (by omega)), fun i a b => by rw [f3.1 8 (by decide)]; exact hf i a b, hg⟩
end CW
