/-! PARTS, by the model. -/
theorem take_succ' {W : List (List Int)} {k : Nat} (h : k < W.length) : W.take (k + 1) = W.take k ++ [W.getD k []] := by
  rw [List.take_add_one, List.getElem?_eq_getElem h, List.getD_eq_getElem?_getD, List.getElem?_eq_getElem h]
  rfl
/-- what the words so far give -/
def tK (W : List (List Int)) (l : List Int) (G : Nat → Int) (i k : Nat) : Int := sN (fun j => if i < j ∧ sub l i ((j : Int) - i) ∈ W.take k then G j else 0) (l.length + 1)
theorem tK_0 (W : List (List Int)) (l : List Int) (G : Nat → Int) (i : Nat) : tK W l G i 0 = 0 := sN_zero _ fun j _ => by
  rw [List.take_zero, if_neg (fun z => by cases z.2)]
def isPt (W : List (List Int)) (l : List Int) (i k : Nat) : Bool := !decide (W.getD k [] ∈ W.take k) && decide (i + (W.getD k []).length ≤ l.length ∧ sub l i ((W.getD k []).length : Int) = W.getD k [])
theorem tK_s {W : List (List Int)} {l : List Int} {G : Nat → Int} {i k : Nat} (hk : k < W.length) (hv : 1 ≤ (W.getD k []).length) : tK W l G i (k + 1) = if isPt W l i k = true then tK W l G i k + G (i + (W.getD k []).length) else tK W l G i k := by
  have same : (∀ j, j < l.length + 1 → i < j → ((sub l i ((j : Int) - i) ∈ W.take (k + 1)) ↔ (sub l i ((j : Int) - i) ∈ W.take k))) → tK W l G i (k + 1) = tK W l G i k := fun h => by
    refine sN_congr _ fun j hj => ?_
    by_cases q : i < j
    · by_cases q2 : sub l i ((j : Int) - i) ∈ W.take k
      · rw [if_pos ⟨q, (h j hj q).mpr q2⟩, if_pos ⟨q, q2⟩]
      · rw [if_neg (fun z => q2 ((h j hj q).mp z.2)), if_neg (fun z => q2 z.2)]
    · rw [if_neg (fun z => q z.1), if_neg (fun z => q z.1)]
  have tk := take_succ' hk
  have mem : ∀ x : List Int, x ∈ W.take (k + 1) ↔ (x ∈ W.take k ∨ x = W.getD k []) := fun x => by
    rw [tk, List.mem_append, List.mem_singleton]
  unfold isPt
  by_cases c1 : W.getD k [] ∈ W.take k
  · rw [decide_eq_true c1, Bool.not_true, Bool.false_and, if_neg (by decide)]
    refine same fun j _ _ => ?_
    rw [mem]
    exact ⟨fun z => z.elim id (fun e => by rw [e]; exact c1), Or.inl⟩
  · rw [decide_eq_false c1, Bool.not_false, Bool.true_and]
    by_cases c2 : i + (W.getD k []).length ≤ l.length ∧ sub l i ((W.getD k []).length : Int) = W.getD k []
    · rw [decide_eq_true c2, if_pos rfl]
      refine sN_pt (j0 := i + (W.getD k []).length) _ (by omega) ?_ fun j hj hn => ?_
      · have e : ((i + (W.getD k []).length : Nat) : Int) - i = (W.getD k []).length := by omega
        rw [e, c2.2, if_pos ⟨by omega, (mem _).mpr (Or.inr rfl)⟩, if_neg (fun z => c1 z.2), Int.zero_add]
      · by_cases q : i < j
        · have ne : ¬ sub l i ((j : Int) - i) = W.getD k [] := fun z => by
            have h1 := sub_len (l := l) (a := (i : Int)) (n := (j : Int) - i) (by omega) (by omega) (by omega)
            rw [z] at h1
            omega
          by_cases q2 : sub l i ((j : Int) - i) ∈ W.take k
          · rw [if_pos ⟨q, (mem _).mpr (Or.inl q2)⟩, if_pos ⟨q, q2⟩]
          · rw [if_neg (fun z => ((mem _).mp z.2).elim q2 ne), if_neg (fun z => q2 z.2)]
        · rw [if_neg (fun z => q z.1), if_neg (fun z => q z.1)]
    · rw [decide_eq_false c2, if_neg (by decide)]
      refine same fun j hj hij => ?_
      rw [mem]
      refine ⟨fun z => z.elim id (fun e => ?_), Or.inl⟩
      exfalso
      have h1 := sub_len (l := l) (a := (i : Int)) (n := (j : Int) - i) (by omega) (by omega) (by omega)
      rw [e] at h1
      exact c2 ⟨by omega, by rw [← h1] at e; exact e⟩
section PM
variable {M : Mem} {w : Int} {L : Lw} {W S : List (List Int)} {l A B : List Int} {c : Int → Int} {a b : Int}
theorem m271 {Q : Int → Mem → Prop} (h : MdlQ M L W S c) (hA : WdIs W S a A) (hB : WdIs W S b B) : WI 271 [vR 204, vI a, vI b] M Q = Q (b2i (decide (A = B))) M := by
  have hw := h.1.2.2.2.2
  have oA := (hA.ok h.2.1 h.2.2.1).1
  have oB := (hB.ok h.2.1 h.2.2.1).1
  have hA12 := oA.2.1
  have hB12 := oB.2.1
  refine FN.wi (WC.fn (t_271 o204 ?_))
  rw [m221 h.1.1 h.2.1 h.2.2.1 hA, m221 h.1.1 h.2.1 h.2.2.1 hB]
  refine ⟨by omega, by omega, ?_⟩
  by_cases q : (A.length : Int) = B.length
  · rw [if_pos q]
    have key : ∀ (n i : Nat), i + n = A.length → (∀ j : Int, 0 ≤ j → j < i → gi A j = gi B j) → WR 271 17 [some (vR 204), some (vI a), some (vI b), some (vI i)] [] M (fun r M' => r = vI (b2i (decide (A = B))) ∧ M' = M) := by
      intro n
      induction n with
      | zero =>
        intro i hi he
        refine t_271_17 o204 ?_
        rw [m221 h.1.1 h.2.1 h.2.2.1 hA]
        refine ⟨by omega, by omega, ?_⟩
        rw [if_pos (by omega)]
        rw [decide_eq_true (gi_ext (by omega) (fun j x y => he j x (by omega)))]
        exact ⟨rfl, rfl⟩
      | succ n ih =>
        intro i hi he
        have qA := onl_r (i := (i : Int)) hw oA.2.2 (by omega) (by omega)
        have qB := onl_r (i := (i : Int)) hw oB.2.2 (by omega) (by omega)
        refine t_271_17 o204 ?_
        rw [m221 h.1.1 h.2.1 h.2.2.1 hA, m222 h.1.1 h.2.1 h.2.2.1 hA (by omega) (by omega), m222 h.1.1 h.2.1 h.2.2.1 hB (by omega) (by omega)]
        refine ⟨by omega, by omega, ?_⟩
        rw [if_neg (by omega)]
        refine ⟨by omega, by omega, ?_⟩
        by_cases e : gi A i = gi B i
        · rw [if_pos e]
          exact ih (i + 1) (by omega) (fun j x y => by
            by_cases z : j = i
            · rw [z]; exact e
            · exact he j x (by omega))
        · rw [if_neg e, decide_eq_false (fun z => e (by rw [z]))]
          exact ⟨rfl, rfl⟩
    exact key A.length 0 (by omega) (fun j x y => by omega)
  · rw [if_neg q, decide_eq_false (fun z => q (by rw [z]))]
    exact ⟨rfl, rfl⟩
theorem m272 {Q : Int → Mem → Prop} {i k : Nat} (h : MdlQ M L W S c) (hl : WdIs W S w l) (hi : i ≤ 12) (hk : k < W.length) : WI 272 [vR 204, vI w, vI i, vI (100 + (k : Int))] M Q = Q (b2i (isPt W l i k)) M := by
  have hw := h.1.2.2.2.2
  have ol := (hl.ok h.2.1 h.2.2.1).1
  have hl12 := ol.2.1
  have h20 := h.2.1.2.1
  have wI : ∀ t : Nat, t < W.length → WdIs W S (100 + (t : Int)) (W.getD t []) := fun t ht => Or.inr ⟨by omega, by omega, by rw [show 100 + (t : Int) - 100 = t by omega, Int.toNat_natCast]⟩
  have oV := ((wI k hk).ok h.2.1 h.2.2.1).1
  have hV12 := oV.2.1
  have p48 : ∀ (n t : Nat), t + n = (W.getD k []).length → i + (W.getD k []).length ≤ l.length → (∀ j : Int, 0 ≤ j → j < t → gi l (i + j) = gi (W.getD k []) j) → ¬ W.getD k [] ∈ W.take k → WR 272 48 [some (vR 204), some (vI w), some (vI i), some (vI (100 + (k : Int))), some (vI t)] [] M (fun r M' => r = vI (b2i (isPt W l i k)) ∧ M' = M) := by
    intro n
    induction n with
    | zero =>
      intro t ht hf he hn
      refine t_272_48 o204 ?_
      rw [m221 h.1.1 h.2.1 h.2.2.1 (wI k hk)]
      refine ⟨by omega, by omega, ?_⟩
      rw [if_pos (by omega)]
      have hsl := sub_len (l := l) (a := (i : Int)) (n := ((W.getD k []).length : Int)) (by omega) (by omega) (by omega)
      have e : sub l i ((W.getD k []).length : Int) = W.getD k [] := gi_ext (by omega) (fun j x y => by
        rw [gi_sub (by omega) x (by omega) (by omega)]
        exact he j x (by omega))
      unfold isPt
      rw [decide_eq_false hn, decide_eq_true ⟨hf, e⟩]
      exact ⟨rfl, rfl⟩
    | succ n ih =>
      intro t ht hf he hn
      have qA := onl_r (i := (i : Int) + t) hw ol.2.2 (by omega) (by omega)
      have qB := onl_r (i := (t : Int)) hw oV.2.2 (by omega) (by omega)
      refine t_272_48 o204 ?_
      rw [m221 h.1.1 h.2.1 h.2.2.1 (wI k hk), m222 h.1.1 h.2.1 h.2.2.1 hl (by omega) (by omega), m222 h.1.1 h.2.1 h.2.2.1 (wI k hk) (by omega) (by omega)]
      refine ⟨by omega, by omega, ?_⟩
      rw [if_neg (by omega)]
      refine ⟨by omega, by omega, ?_⟩
      by_cases e : gi l ((i : Int) + t) = gi (W.getD k []) t
      · rw [if_pos e]
        exact ih (t + 1) (by omega) hf (fun j x y => by
          by_cases z : j = t
          · rw [z]; exact e
          · exact he j x (by omega)) hn
      · rw [if_neg e]
        unfold isPt
        rw [decide_eq_false (fun z : _ ∧ sub l i ((W.getD k []).length : Int) = W.getD k [] => e (by
          have h1 := congrArg (fun v => gi v (t : Int)) z.2
          try dsimp only at h1
          rw [gi_sub (by omega) (by omega) (by omega) (by omega)] at h1
          exact h1)), Bool.and_false]
        exact ⟨rfl, rfl⟩
  have key : ∀ (n t : Nat), t + n = k → ¬ W.getD k [] ∈ W.take t → WR 272 4 [some (vR 204), some (vI w), some (vI i), some (vI (100 + (k : Int))), some (vI (100 + (t : Int)))] [] M (fun r M' => r = vI (b2i (isPt W l i k)) ∧ M' = M) := by
    intro n
    induction n with
    | zero =>
      intro t ht hn
      rw [show t = k by omega] at hn ⊢
      refine t_272_4 o204 ⟨by omega, by omega, ?_⟩
      rw [if_pos (by omega), m221 h.1.1 h.2.1 h.2.2.1 (wI k hk), m221 h.1.1 h.2.1 h.2.2.1 hl]
      refine ⟨by omega, by omega, ?_⟩
      by_cases q : i + (W.getD k []).length ≤ l.length
      · rw [if_pos (by omega)]
        exact p48 (W.getD k []).length 0 (by omega) q (fun j x y => by omega) hn
      · rw [if_neg (by omega)]
        unfold isPt
        rw [decide_eq_false (fun z : _ ∧ _ => q z.1), Bool.and_false]
        exact ⟨rfl, rfl⟩
    | succ n ih =>
      intro t ht hn
      refine t_272_4 o204 ⟨by omega, by omega, ?_⟩
      rw [if_neg (by omega), m271 h (wI t (by omega)) (wI k hk)]
      refine ⟨by have := b2i_r (decide (W.getD t [] = W.getD k [])); omega, ?_⟩
      by_cases e : W.getD t [] = W.getD k []
      · rw [decide_eq_true e, if_neg (by decide)]
        unfold isPt
        have hm : W.getD k [] ∈ W.take k := by
          rw [← e, List.getD_eq_getElem?_getD, List.getElem?_eq_getElem (by omega)]
          show W[t] ∈ W.take k
          exact List.mem_take_iff_getElem.mpr ⟨t, by omega, rfl⟩
        rw [decide_eq_true hm, Bool.not_true, Bool.false_and]
        exact ⟨rfl, rfl⟩
      · rw [decide_eq_false e, if_pos (by decide), show 100 + (t : Int) + 1 = 100 + ((t + 1 : Nat) : Int) by omega]
        refine ih (t + 1) (by omega) (fun z => ?_)
        rw [take_succ' (by omega), List.mem_append, List.mem_singleton] at z
        exact z.elim hn (fun y => e y.symm)
  exact FN.wi (WC.fn (t_272 o204 (key k 0 (by omega) (by rw [List.take_zero]; exact fun z => by cases z))))
theorem mParts {Q : Int → Mem → Prop} (h : MdlQ M L W S c) (hi : inR w) (hQ : ∀ M' : Mem, FrM M M' → Q (aParts W S w) M') : WI 273 [vR 204, vI w] M Q := by
  have h20 := h.2.1.2.1
  have z42 : shA SH 242 = (20, 13) := by decide +kernel
  have fr : ∀ {N : Mem}, (∀ k : Int, k ≠ 242 → N k = M k) → FrM M N := fun {N} g => ⟨fun k a b => g k (by omega), fun j _ _ _ _ => by rw [g 204 (by decide)]⟩
  have e76 : ∀ {N : Mem}, (∀ k : Int, k ≠ 242 → N k = M k) → N 204 76 = 242 := fun {N} g => (h.fr (fr g)).1.1.at (by decide)
  have g42 : ∀ {j : Int}, 0 ≤ j → j < 13 → gA 20 242 j := fun {j} a b => gC z42 a b
  unfold aParts at hQ
  refine t_273 o204 ?_
  rw [m219 h hi]
  cases e : wd W S w with
  | none =>
    rw [e] at hQ
    exact ⟨by decide, by rw [show b2i (Option.isSome (none : Option (List Int))) = 0 from rfl, if_pos rfl]; exact ⟨_, rfl, hQ M FrM.rf⟩⟩
  | some l =>
    rw [e] at hQ
    dsimp only at hQ
    have hd := wd_is e
    have hok := (hd.ok h.2.1 h.2.2.1).1
    have h12 := hok.2.1
    rw [show b2i (Option.isSome (some l)) = 1 from rfl, if_neg (by decide), m221 h.1.1 h.2.1 h.2.2.1 hd, e76 (fun _ _ => rfl)]
    refine ⟨by decide, g42 (by omega) (by omega), ?_⟩
    have hV : ∀ k, k < W.length → 1 ≤ (W.getD k []).length := fun k hk => (h.2.1.2.2 k hk).2.2.1
    have key : ∀ (i : Nat) (l4 : Option AV) (N : Mem), i ≤ l.length → (∀ k : Int, k ≠ 242 → N k = M k) → N 242 l.length = 1 → (∀ t : Nat, i ≤ t → t < l.length → N 242 t = sN (fun j => if t < j ∧ pW W l t j = true then N 242 j else 0) (l.length + 1)) → (∀ t : Nat, i ≤ t → t ≤ l.length → 0 ≤ N 242 t) → sN (fun j => if i ≤ j then N 242 j else 0) (l.length + 1) ≤ (2 : Int) ^ (l.length - i) → WR 273 27 [some (vR 204), some (vI w), some (vI l.length), some (vI ((i : Int) - 1)), l4] [] N (fun r M' => ∃ x, r = vI x ∧ Q x M') := by
      intro i
      induction i with
      | zero =>
        intro l4 N hi g hn hg hp hs
        refine t_273_27 o204 ⟨by omega, ?_⟩
        rw [if_pos (by omega), e76 g]
        refine ⟨g42 (by decide) (by decide), _, rfl, ?_⟩
        have fl := flow (n := l.length) (F := fun j => wT (pW W l) j j) (G := fun j => N 242 (j : Int)) (p := pW W l) rfl (fun e _ => wT_eq _ e) hn (fun t ht => hg t (Nat.zero_le _) ht)
        have := hQ N (fr g)
        unfold waysL at this
        try dsimp only at fl
        rw [fl] at this
        exact this
      | succ i ih =>
        intro l4 N hi g hn hg hp hs
        refine t_273_27 o204 ⟨by omega, ?_⟩
        rw [if_neg (by omega), e76 g, show ((i + 1 : Nat) : Int) - 1 = i by omega]
        refine ⟨g42 (by omega) (by omega), ?_⟩
        have hH : ∀ k, tK W l (fun j => N 242 (j : Int)) i k ≤ 4096 ∧ 0 ≤ tK W l (fun j => N 242 (j : Int)) i k := fun k => by
          have h1 : tK W l (fun j => N 242 (j : Int)) i k ≤ sN (fun j => if i + 1 ≤ j then N 242 (j : Int) else 0) (l.length + 1) := sN_le _ fun j hj => by
            dsimp only
            by_cases q : i < j
            · have := hp j (by omega) (by omega)
              rw [if_pos (show i + 1 ≤ j by omega)]
              split
              · exact Int.le_refl _
              · exact this
            · rw [if_neg (fun z => q z.1), if_neg (by omega)]
              exact Int.le_refl _
          have h2 : sN (fun _ => 0) (l.length + 1) ≤ tK W l (fun j => N 242 (j : Int)) i k := sN_le _ fun j hj => by
            dsimp only
            split
            · rename_i z
              exact hp j (by omega) (by omega)
            · exact Int.le_refl _
          rw [sN_zero _ fun _ _ => rfl] at h2
          have h3 := two12 (e := l.length - (i + 1)) (by omega)
          omega
        have inner : ∀ (n k : Nat) (N' : Mem), k + n = W.length → (∀ t : Int, t ≠ 242 → N' t = M t) → (∀ t : Int, t ≠ i → N' 242 t = N 242 t) → N' 242 i = tK W l (fun j => N 242 (j : Int)) i k → WR 273 42 [some (vR 204), some (vI w), some (vI l.length), some (vI i), some (vI (100 + (k : Int)))] [] N' (fun r M' => ∃ x, r = vI x ∧ Q x M') := by
          intro n
          induction n with
          | zero =>
            intro k N' hk g' ho hv
            have hN' := h.fr (fr g')
            refine t_273_42 o204 ?_
            rw [hN'.1.1.at (show ((61 : Int), (230 : Int)) ∈ mpT by decide), hN'.2.1.1]
            refine ⟨gC z230 (by decide) (by decide), by omega, by omega, ?_⟩
            rw [if_pos (by omega), show (i : Int) + (-1) = (i : Int) - 1 by omega]
            have o' : ∀ j : Nat, i < j → N' 242 (j : Int) = N 242 j := fun j hj => ho j (by omega)
            have ev : N' 242 i = sN (fun j => if i < j ∧ pW W l i j = true then N' 242 (j : Int) else 0) (l.length + 1) := by
              rw [hv, show k = W.length by omega]
              refine sN_congr _ fun j _ => ?_
              rw [List.take_length]
              by_cases q : i < j
              · have eq : (pW W l i j = true) ↔ sub l i ((j : Int) - i) ∈ W := decide_eq_true_iff
                by_cases q2 : sub l i ((j : Int) - i) ∈ W
                · rw [if_pos ⟨q, q2⟩, if_pos ⟨q, eq.mpr q2⟩, o' j q]
                · rw [if_neg (fun z => q2 z.2), if_neg (fun z => q2 (eq.mp z.2))]
              · rw [if_neg (fun z => q z.1), if_neg (fun z => q z.1)]
            have hv0 : 0 ≤ N' 242 i := by rw [hv]; exact (hH k).2
            refine ih _ N' (by omega) g' (by rw [ho _ (by omega)]; exact hn) (fun t ht1 ht2 => ?_) (fun t ht1 ht2 => ?_) ?_
            · by_cases q : t = i
              · rw [q]; exact ev
              · rw [o' t (by omega), hg t (by omega) ht2]
                refine sN_congr _ fun j _ => ?_
                by_cases q2 : t < j ∧ pW W l t j = true
                · rw [if_pos q2, if_pos q2, o' j (by omega)]
                · rw [if_neg q2, if_neg q2]
            · by_cases q : t = i
              · rw [q]; exact hv0
              · rw [o' t (by omega)]; exact hp t (by omega) ht2
            · have e1 : sN (fun j => if i ≤ j then N' 242 (j : Int) else 0) (l.length + 1) = sN (fun j => if i + 1 ≤ j then N 242 (j : Int) else 0) (l.length + 1) + N' 242 i := by
                refine sN_pt (j0 := i) _ (by omega) ?_ fun j _ hj => ?_
                · rw [if_pos (Nat.le_refl i), if_neg (by omega), Int.zero_add]
                · by_cases q : i ≤ j
                  · rw [if_pos q, if_pos (by omega), o' j (by omega)]
                  · rw [if_neg q, if_neg (by omega)]
              have e2 : N' 242 i ≤ sN (fun j => if i + 1 ≤ j then N 242 (j : Int) else 0) (l.length + 1) := by
                rw [hv]
                exact sN_le _ fun j hj => by
                  dsimp only
                  by_cases q : i < j
                  · have := hp j (by omega) (by omega)
                    rw [if_pos (show i + 1 ≤ j by omega)]
                    split
                    · exact Int.le_refl _
                    · exact this
                  · rw [if_neg (fun z => q z.1), if_neg (by omega)]
                    exact Int.le_refl _
              rw [e1, show l.length - i = l.length - (i + 1) + 1 by omega, Int.pow_succ]
              omega
          | succ n ihn =>
            intro k N' hk g' ho hv
            have hN' := h.fr (fr g')
            have hVk := hV k (by omega)
            have wI : WdIs W S (100 + (k : Int)) (W.getD k []) := Or.inr ⟨by omega, by omega, by rw [show 100 + (k : Int) - 100 = k by omega, Int.toNat_natCast]⟩
            have ts := tK_s (l := l) (G := fun j => N 242 (j : Int)) (i := i) (show k < W.length by omega) hVk
            have hb := hH (k + 1)
            refine t_273_42 o204 ?_
            rw [hN'.1.1.at (show ((61 : Int), (230 : Int)) ∈ mpT by decide), hN'.2.1.1]
            refine ⟨gC z230 (by decide) (by decide), by omega, by omega, ?_⟩
            rw [if_neg (by omega), m272 hN' hd (by omega) (by omega), m221 hN'.1.1 hN'.2.1 hN'.2.2.1 wI, e76 g', show 100 + (k : Int) + 1 = 100 + ((k + 1 : Nat) : Int) by omega]
            refine ⟨by have := b2i_r (isPt W l i k); omega, ?_⟩
            cases hp2 : isPt W l i k
            · rw [if_pos (by decide)]
              rw [hp2, if_neg (by decide)] at ts
              exact ihn (k + 1) N' (by omega) g' ho (by rw [hv, ts])
            · rw [if_neg (by decide)]
              rw [hp2, if_pos rfl] at ts
              have hfit : i + (W.getD k []).length ≤ l.length := by
                unfold isPt at hp2
                rw [Bool.and_eq_true, decide_eq_true_eq] at hp2
                exact hp2.2.1
              have er : N' 242 ((i : Int) + (W.getD k []).length) = N 242 ((i + (W.getD k []).length : Nat) : Int) := ho _ (by omega)
              rw [hv, er, m179 (by decide) (by omega), Int.min_eq_right (by omega)]
              refine ⟨g42 (by omega) (by omega), g42 (by omega) (by omega), g42 (by omega) (by omega), ihn (k + 1) _ (by omega) (fun t a => by rw [upM_o a]; exact g' t a) (fun t a => by rw [upM_f a]; exact ho t a) ?_⟩
              rw [upM_s, ts]
        exact inner W.length 0 _ (by omega) (fun t a => by rw [upM_o a]; exact g t a) (fun t a => upM_f a) (by rw [upM_s, tK_0])
    have e2 : sN (fun j => if l.length ≤ j then upM M 242 l.length 1 242 (j : Int) else 0) (l.length + 1) = 1 := by
      show sN (fun j => if l.length ≤ j then upM M 242 l.length 1 242 (j : Int) else 0) l.length + (if l.length ≤ l.length then upM M 242 l.length 1 242 (l.length : Int) else 0) = 1
      rw [sN_zero l.length fun j hj => if_neg (by omega), if_pos (Nat.le_refl _), upM_s]
      rfl
    refine key l.length none (upM M 242 l.length 1) (Nat.le_refl _) (fun k a => upM_o a) upM_s (fun t a b => by omega) (fun t a b => ?_) ?_
    · rw [show t = l.length by omega, upM_s]
      decide
    · rw [e2, Nat.sub_self]
      decide
end PM
