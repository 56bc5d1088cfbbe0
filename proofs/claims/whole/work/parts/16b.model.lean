/-! THE MODEL READ, part two: told and learnt openings. -/
theorem gi_ext {t l : List Int} (h : t.length = l.length) (g : ∀ j : Int, 0 ≤ j → j < l.length → gi t j = gi l j) : t = l := by
  apply List.ext_getElem h
  intro i h1 h2
  have := g (i : Int) (by omega) (by omega)
  rw [gi_nat, gi_nat, List.getD_eq_getElem?_getD, List.getD_eq_getElem?_getD, List.getElem?_eq_getElem h1, List.getElem?_eq_getElem h2] at this
  exact this
theorem lead_pre (L : Lw) (v : List Int) : (leadL L v).length ≤ v.length ∧ ∀ j : Int, 0 ≤ j → j < (leadL L v).length → gi (leadL L v) j = gi v j := by
  have hp : leadL L v <+: v := List.takeWhile_prefix _
  obtain ⟨r, hr⟩ := hp
  refine ⟨by have := congrArg List.length hr; rw [List.length_append] at this; omega, fun j a b => ?_⟩
  have := gi_app (a := leadL L v) (b := r) a
  rw [if_pos b, hr] at this
  exact this.symm
/-- where the first peak stands, -1 -/
def hdI (L : Lw) (v : List Int) : Int := fnd (fun i => pkn L (gi v i)) 0 v.length
theorem hdI_eq (L : Lw) (v : List Int) : hdI L v = if hasPk L v = true then ((leadL L v).length : Int) else -1 := by
  have key : ∀ (k i : Nat), i + k = v.length → fnd (fun i => pkn L (gi v i)) i k = if hasPk L (v.drop i) = true then (i : Int) + (leadL L (v.drop i)).length else -1 := by
    intro k
    induction k with
    | zero =>
      intro i hi
      rw [List.drop_eq_nil_of_le (by omega)]
      rfl
    | succ k ih =>
      intro i hi
      have hd := drop_cons (l := v) (i := i) (by omega)
      have ih := ih (i + 1) (by omega)
      have e : fnd (fun i => pkn L (gi v i)) (i : Int) (k + 1) = if pkn L (gi v i) = true then (i : Int) else fnd (fun i => pkn L (gi v i)) ((i : Int) + 1) k := rfl
      rw [e, hd]
      unfold hasPk leadL at ih ⊢
      rw [List.any_cons, List.takeWhile_cons]
      cases hp : pkn L (gi v i)
      · rw [if_neg (by decide), show (i : Int) + 1 = ((i + 1 : Nat) : Int) from rfl, ih, Bool.false_or]
        by_cases q : (v.drop (i + 1)).any (pkn L) = true
        · rw [if_pos q, if_pos q, if_pos (by decide), List.length_cons]
          omega
        · rw [if_neg q, if_neg q]
      · rw [if_pos rfl, Bool.true_or, if_pos rfl, if_neg (by decide), List.length_nil]
        omega
  have := key v.length 0 (by omega)
  rw [List.drop_zero] at this
  unfold hdI
  rw [show (0 : Int) = ((0 : Nat) : Int) from rfl, this]
  split
  · omega
  · rfl
theorem lead_iff {L : Lw} {v l : List Int} : (hdI L v = l.length ∧ ∀ j : Int, 0 ≤ j → j < l.length → gi v j = gi l j) ↔ (hasPk L v && decide (leadL L v = l)) = true := by
  rw [hdI_eq, Bool.and_eq_true, decide_eq_true_eq]
  have hp := lead_pre L v
  constructor
  · rintro ⟨h1, h2⟩
    split at h1
    · rename_i h
      exact ⟨h, gi_ext (by omega) (fun j a b => by rw [hp.2 j a (by omega)]; exact h2 j a b)⟩
    · omega
  · rintro ⟨h1, h2⟩
    rw [if_pos h1, h2]
    rw [h2] at hp
    exact ⟨rfl, fun j a b => (hp.2 j a b).symm⟩
section MT
variable {M : Mem} {a o s : Int} {l : List Int} {L : Lw} {W : List (List Int)}
theorem onl_r (hw : Wf L) (hl : onl L l) {i : Int} (h0 : 0 ≤ i) (h1 : i < l.length) : 0 ≤ gi l i ∧ gi l i < 16 := by
  have := hl _ (gi_mem h0 h1)
  have hn := hw.1.1
  omega
theorem m232 {Q : Int → Mem → Prop} (h : MLaw M L) (ha : ArrOk a o l.length) (hs : SegIs M a o l) (hl : onl L l) (hlen : l.length ≤ 12) (ho : o ≤ 10000) : WI 232 [vR 204, vR a, vI o, vI l.length] M Q = Q (b2i (decide (l ∈ Ltd L))) M := by
  have hw := h.2.2.2.2
  have hn := hw.1.1
  have ht12 := hw.2.1.1
  have e39 := h.2.2.1.1
  have e52 := h.1.at (show ((52 : Int), (222 : Int)) ∈ mpT by decide)
  have e53 := h.1.at (show ((53 : Int), (223 : Int)) ∈ mpT by decide)
  have z222 : shA SH 222 = (20, 48) := by decide +kernel
  have z223 : shA SH 223 = (20, 12) := by decide +kernel
  have ho0 := ha.2.1
  have zero : ∀ (k : Nat) (i : Int) (P : AV → Mem → Prop), inR i → (∀ l5 l6, WR 232 3 [some (vR 204), some (vR a), some (vI o), some (vI l.length), some (vI ((k : Int) + 1)), l5, l6] [] M P) → WR 232 33 [some (vR 204), some (vR a), some (vI o), some (vI l.length), some (vI k), some (vI 0), some (vI i)] [] M P := by
    intro k i P hi hP
    refine t_232_33 o204 ⟨hi, by omega, ?_⟩
    by_cases q : (l.length : Int) ≤ i
    · rw [if_pos q, if_pos rfl]
      exact ⟨by decide, hP _ _⟩
    · rw [if_neg q, if_pos rfl, if_pos rfl]
      exact ⟨by decide, hP _ _⟩
  have one : ∀ (k : Nat) (P : AV → Mem → Prop), k < (Ltd L).length → ((Ltd L).getD k []).length = l.length → ((Ltd L).getD k [] = l → P (vI 1) M) → ((Ltd L).getD k [] ≠ l → ∀ l5 l6, WR 232 3 [some (vR 204), some (vR a), some (vI o), some (vI l.length), some (vI ((k : Int) + 1)), l5, l6] [] M P) → ∀ (m i : Nat), i + m = l.length → (∀ j : Int, 0 ≤ j → j < i → gi ((Ltd L).getD k []) j = gi l j) → WR 232 33 [some (vR 204), some (vR a), some (vI o), some (vI l.length), some (vI k), some (vI 1), some (vI i)] [] M P := by
    intro k P hk htl h1 h2 m
    have hseg := (h.2.2.1.2.1 k hk).2
    have htm := gtd (i := k) (xs := Ltd L) hk
    have hton : onl L ((Ltd L).getD k []) := fun s hs => by
      have := (hw.2.1.2.1 _ htm).2.2 s hs
      omega
    have h4 := (hw.2.1.2.1 _ htm).2.1
    induction m with
    | zero =>
      intro i hi hj
      refine t_232_33 o204 ⟨by omega, by omega, ?_⟩
      rw [if_pos (by omega), if_neg (by decide)]
      exact ⟨by decide, h1 (gi_ext htl (fun j a b => hj j a (by omega)))⟩
    | succ m ih =>
      intro i hi hj
      have r1 := onl_r hw hton (i := (i : Int)) (by omega) (by omega)
      have r2 := onl_r hw hl (i := (i : Int)) (by omega) (by omega)
      refine t_232_33 o204 ⟨by omega, by omega, ?_⟩
      rw [if_neg (by omega), if_neg (by decide), e52, hseg (i : Int) (by omega) (by omega), hs (i : Int) (by omega) (by omega)]
      refine ⟨by decide, ⟨by rw [z222], by omega, by rw [z222]; show _ < ((48 : Nat) : Int); omega⟩, ha.g (by omega) (by omega), by omega, by omega, ?_⟩
      by_cases q : gi ((Ltd L).getD k []) i = gi l i
      · rw [if_pos q]
        refine ih (i + 1) (by omega) (fun j a b => ?_)
        by_cases e : j = i
        · rw [e]; exact q
        · exact hj j a (by omega)
      · rw [if_neg q]
        exact zero k _ P (by omega) (h2 (fun e => q (by rw [e])))
  have key : ∀ (n k : Nat) (l5 l6 : Option AV) (P : AV → Mem → Prop), k + n = (Ltd L).length → P (vI (b2i (anyB (fun x => decide ((Ltd L).getD x.toNat [] = l)) k n))) M → WR 232 3 [some (vR 204), some (vR a), some (vI o), some (vI l.length), some (vI k), l5, l6] [] M P := by
    intro n
    induction n with
    | zero =>
      intro k l5 l6 P hk hP
      refine t_232_3 o204 ?_
      rw [e39]
      refine ⟨by omega, by omega, ?_⟩
      rw [if_pos (by omega)]
      exact hP
    | succ n ih =>
      intro k l5 l6 P hk hP
      have htm := gtd (i := k) (xs := Ltd L) (by omega)
      have h4 := (hw.2.1.2.1 _ htm).2.1
      refine t_232_3 o204 ?_
      rw [e39, e53, (h.2.2.1.2.1 k (by omega)).1]
      refine ⟨by omega, by omega, ?_⟩
      rw [if_neg (by omega)]
      refine ⟨⟨by rw [z223], by omega, by rw [z223]; show _ < ((12 : Nat) : Int); omega⟩, by omega, by omega, ?_⟩
      unfold anyB at hP
      rw [Int.toNat_natCast] at hP
      have nx : (Ltd L).getD k [] ≠ l → ∀ l5 l6, WR 232 3 [some (vR 204), some (vR a), some (vI o), some (vI l.length), some (vI ((k : Int) + 1)), l5, l6] [] M P := by
        intro he l5 l6
        rw [decide_eq_false he, Bool.false_or] at hP
        exact ih (k + 1) l5 l6 P (by omega) hP
      by_cases q : (((Ltd L).getD k []).length : Int) = l.length
      · rw [if_pos q]
        refine one k P (by omega) (by omega) (fun e => ?_) nx l.length 0 (by omega) (fun j a b => by omega)
        rw [decide_eq_true e] at hP
        exact hP
      · rw [if_neg q]
        exact zero k 0 P (by decide) (nx (fun e => q (by rw [e])))
  have h0 := key (Ltd L).length 0 none none (fun r N => r = vI (b2i (decide (l ∈ Ltd L))) ∧ N = M) (by omega) ⟨by rw [show ((0 : Nat) : Int) = 0 from rfl, anyB_mem (fun i hi => by rw [Int.toNat_natCast])]; exact congrArg (fun t => vI (b2i t)) (decide_eq_decide.mpr Iff.rfl), rfl⟩
  exact FN.wi (WC.fn (t_232 o204 h0))
theorem z230 : shA SH 230 = (20, 267) := by decide +kernel
theorem lrn_g (hW : MLrn M L W) {k : Nat} (hk : k < W.length) : WordOk L (W.getD k []) ∧ M 230 (1 + k) = (W.getD k []).length ∧ SegIs M 230 (21 + 12 * k) (W.getD k []) := ⟨(hW.2.2 k hk).2.2, (hW.2.2 k hk).1, (hW.2.2 k hk).2.1⟩
theorem m233 {Q : Int → Mem → Prop} {k : Nat} (h : MLaw M L) (hW : MLrn M L W) (hk : k < W.length) : WI 233 [vR 204, vI k] M Q = Q (hdI L (W.getD k [])) M := by
  have h20 := hW.2.1
  obtain ⟨hv, e1, hseg⟩ := lrn_g hW hk
  have e61 := h.1.at (show ((61 : Int), (230 : Int)) ∈ mpT by decide)
  generalize W.getD k [] = v at hv e1 hseg ⊢
  have hvl := hv.2.1
  have key : ∀ (n i : Nat) (P : AV → Mem → Prop), i + n = v.length → P (vI (fnd (fun i => pkn L (gi v i)) i n)) M → WR 233 2 [some (vR 204), some (vI k), some (vI i)] [] M P := by
    intro n
    induction n with
    | zero =>
      intro i P hi hP
      refine t_233_2 o204 ?_
      rw [e61, e1]
      refine ⟨⟨by rw [z230], by omega, by rw [z230]; show _ < ((267 : Nat) : Int); omega⟩, by omega, by omega, ?_⟩
      rw [if_pos (by omega)]
      exact hP
    | succ n ih =>
      intro i P hi hP
      have q1 := hv.2.2 _ (gi_mem (l := v) (i := (i : Int)) (by omega) (by omega))
      refine t_233_2 o204 ?_
      rw [e61, e1, hseg (i : Int) (by omega) (by omega), m225 h q1.1 q1.2]
      refine ⟨⟨by rw [z230], by omega, by rw [z230]; show _ < ((267 : Nat) : Int); omega⟩, by omega, by omega, ?_⟩
      rw [if_neg (by omega)]
      refine ⟨⟨by rw [z230], by omega, by rw [z230]; show _ < ((267 : Nat) : Int); omega⟩, by have := b2i_r (pkn L (gi v i)); omega, ?_⟩
      have e : fnd (fun i => pkn L (gi v i)) (i : Int) (n + 1) = if pkn L (gi v i) = true then (i : Int) else fnd (fun i => pkn L (gi v i)) ((i : Int) + 1) n := rfl
      rw [e] at hP
      cases hp : pkn L (gi v i)
      · rw [hp, if_neg (by decide)] at hP
        rw [if_pos (by decide)]
        exact ih (i + 1) P (by omega) hP
      · rw [hp, if_pos rfl] at hP
        exact hP
  exact FN.wi (WC.fn (t_233 o204 (key v.length 0 _ (by omega) ⟨rfl, rfl⟩)))
theorem m234 {Q : Int → Mem → Prop} (h : MLaw M L) (hW : MLrn M L W) (ha : ArrOk a o l.length) (hs : SegIs M a o l) (hl : onl L l) (hlen : l.length ≤ 12) (ho : o ≤ 10000) : WI 234 [vR 204, vR a, vI o, vI l.length] M Q = Q (b2i (isLead L W l)) M := by
  have hw := h.2.2.2.2
  have h20 := hW.2.1
  have e0 := hW.1
  have e61 := h.1.at (show ((61 : Int), (230 : Int)) ∈ mpT by decide)
  have ho0 := ha.2.1
  have zero : ∀ (k : Nat) (i : Int) (P : AV → Mem → Prop), inR i → (∀ l5 l6, WR 234 3 [some (vR 204), some (vR a), some (vI o), some (vI l.length), some (vI ((k : Int) + 1)), l5, l6] [] M P) → WR 234 34 [some (vR 204), some (vR a), some (vI o), some (vI l.length), some (vI k), some (vI 0), some (vI i)] [] M P := by
    intro k i P hi hP
    refine t_234_34 o204 ⟨hi, by omega, ?_⟩
    by_cases q : (l.length : Int) ≤ i
    · rw [if_pos q, if_pos rfl]
      exact ⟨by decide, hP _ _⟩
    · rw [if_neg q, if_pos rfl, if_pos rfl]
      exact ⟨by decide, hP _ _⟩
  have one : ∀ (k : Nat) (P : AV → Mem → Prop), k < W.length → hdI L (W.getD k []) = l.length → ((∀ j : Int, 0 ≤ j → j < l.length → gi (W.getD k []) j = gi l j) → P (vI 1) M) → ((¬ ∀ j : Int, 0 ≤ j → j < l.length → gi (W.getD k []) j = gi l j) → ∀ l5 l6, WR 234 3 [some (vR 204), some (vR a), some (vI o), some (vI l.length), some (vI ((k : Int) + 1)), l5, l6] [] M P) → ∀ (m i : Nat), i + m = l.length → (∀ j : Int, 0 ≤ j → j < i → gi (W.getD k []) j = gi l j) → WR 234 34 [some (vR 204), some (vR a), some (vI o), some (vI l.length), some (vI k), some (vI 1), some (vI i)] [] M P := by
    intro k P hk htl h1 h2 m
    obtain ⟨hv, e1, hseg⟩ := lrn_g hW hk
    have hle : l.length ≤ (W.getD k []).length := by
      rw [hdI_eq] at htl
      have := (lead_pre L (W.getD k [])).1
      split at htl <;> omega
    have hv12 := hv.2.1
    induction m with
    | zero =>
      intro i hi hj
      refine t_234_34 o204 ⟨by omega, by omega, ?_⟩
      rw [if_pos (by omega), if_neg (by decide)]
      exact ⟨by decide, h1 (fun j a b => hj j a (by omega))⟩
    | succ m ih =>
      intro i hi hj
      have r1 := onl_r hw hv.2.2 (i := (i : Int)) (by omega) (by omega)
      have r2 := onl_r hw hl (i := (i : Int)) (by omega) (by omega)
      refine t_234_34 o204 ⟨by omega, by omega, ?_⟩
      rw [if_neg (by omega), if_neg (by decide), e61, hseg (i : Int) (by omega) (by omega), hs (i : Int) (by omega) (by omega)]
      refine ⟨by decide, ⟨by rw [z230], by omega, by rw [z230]; show _ < ((267 : Nat) : Int); omega⟩, ha.g (by omega) (by omega), by omega, by omega, ?_⟩
      by_cases q : gi (W.getD k []) i = gi l i
      · rw [if_pos q]
        refine ih (i + 1) (by omega) (fun j a b => ?_)
        by_cases e : j = i
        · rw [e]; exact q
        · exact hj j a (by omega)
      · rw [if_neg q]
        exact zero k _ P (by omega) (h2 (fun e => q (e i (by omega) (by omega))))
  have key : ∀ (n k : Nat) (l5 l6 : Option AV) (P : AV → Mem → Prop), k + n = W.length → P (vI (b2i (isLead L (W.drop k) l))) M → WR 234 3 [some (vR 204), some (vR a), some (vI o), some (vI l.length), some (vI k), l5, l6] [] M P := by
    intro n
    induction n with
    | zero =>
      intro k l5 l6 P hk hP
      refine t_234_3 o204 ?_
      rw [e61, e0]
      refine ⟨⟨by rw [z230], by omega, by rw [z230]; decide⟩, by omega, by omega, ?_⟩
      rw [if_pos (by omega)]
      rw [List.drop_eq_nil_of_le (by omega)] at hP
      exact hP
    | succ n ih =>
      intro k l5 l6 P hk hP
      have hdrop : W.drop k = W.getD k [] :: W.drop (k + 1) := by
        rw [List.getD_eq_getElem?_getD, List.getElem?_eq_getElem (by omega)]
        exact (List.getElem_cons_drop (by omega)).symm
      have hhd := hdI_eq L (W.getD k [])
      have hlp := (lead_pre L (W.getD k [])).1
      have hv12 := (lrn_g hW (show k < W.length by omega)).1.2.1
      have hhr : -1 ≤ hdI L (W.getD k []) ∧ hdI L (W.getD k []) ≤ 12 := by
        rw [hhd]
        split <;> omega
      refine t_234_3 o204 ?_
      rw [e61, e0]
      refine ⟨⟨by rw [z230], by omega, by rw [z230]; decide⟩, by omega, by omega, ?_⟩
      rw [if_neg (by omega), m233 h hW (by omega)]
      refine ⟨by omega, by omega, ?_⟩
      rw [hdrop] at hP
      unfold isLead at hP
      rw [List.any_cons] at hP
      have nx : (hasPk L (W.getD k []) && decide (leadL L (W.getD k []) = l)) = false → ∀ l5 l6, WR 234 3 [some (vR 204), some (vR a), some (vI o), some (vI l.length), some (vI ((k : Int) + 1)), l5, l6] [] M P := by
        intro he l5 l6
        rw [he, Bool.false_or] at hP
        exact ih (k + 1) l5 l6 P (by omega) hP
      have hf : ¬ (hasPk L (W.getD k []) && decide (leadL L (W.getD k []) = l)) = true → (hasPk L (W.getD k []) && decide (leadL L (W.getD k []) = l)) = false := fun q => by rw [Bool.eq_false_iff]; exact q
      by_cases q : hdI L (W.getD k []) = l.length
      · rw [if_pos q]
        refine one k P (by omega) q (fun e => ?_) (fun e => nx (hf (fun z => e (lead_iff.mpr z).2))) l.length 0 (by omega) (fun j a b => by omega)
        rw [lead_iff.mp ⟨q, e⟩] at hP
        exact hP
      · rw [if_neg q]
        exact zero k 0 P (by decide) (nx (hf (fun z => q (lead_iff.mpr z).1)))
  exact FN.wi (WC.fn (t_234 o204 (key W.length 0 none none _ (by omega) ⟨by rw [List.drop_zero], rfl⟩)))
theorem m235 {Q : Int → Mem → Prop} (h : MLaw M L) (hW : MLrn M L W) (ha : ArrOk a o l.length) (hs : SegIs M a o l) (hl : onl L l) (hlen : l.length ≤ 12) (ho : o ≤ 10000) : WI 235 [vR 204, vR a, vI o, vI l.length] M Q = Q (kind L W l) M := by
  refine FN.wi (WC.fn (t_235 o204 ?_))
  unfold kind
  refine ⟨by omega, ?_⟩
  by_cases c1 : l.length ≤ 1
  · rw [if_neg (by omega), if_pos c1]
    exact ⟨rfl, rfl⟩
  rw [if_pos (by omega), if_neg c1]
  by_cases c2 : 4 < l.length
  · rw [if_neg (by omega), if_pos c2]
    exact ⟨rfl, rfl⟩
  rw [if_pos (by omega), if_neg c2, m232 h ha hs hl hlen ho]
  refine ⟨by have := b2i_r (decide (l ∈ Ltd L)); omega, ?_⟩
  by_cases c3 : l ∈ Ltd L
  · rw [decide_eq_true c3, if_neg (by decide), if_pos c3]
    exact ⟨rfl, rfl⟩
  rw [decide_eq_false c3, if_pos (by decide), if_neg c3, m234 h hW ha hs hl hlen ho]
  refine ⟨by have := b2i_r (isLead L W l); omega, ?_⟩
  cases c4 : isLead L W l
  · rw [if_pos (by decide), if_neg (by decide), m231 h ha hs hl hlen ho]
    refine ⟨by have := b2i_r (rising L l); omega, ?_⟩
    cases rising L l <;> exact ⟨rfl, rfl⟩
  · exact ⟨rfl, rfl⟩
end MT
