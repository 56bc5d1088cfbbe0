/-! FAR and NEAREST, on both sides. -/
def fN (L : Lw) (a : Int) (B : List Int) (i : Nat) (r : Nat → Int) : Nat → Int
  | 0 => 5 * ((i : Int) + 1)
  | j + 1 => min (r j + chg L a (gi B j)) (min (r (j + 1)) (fN L a B i r j) + 5)
/-- how far so many of the one are from so many of the other -/
def fD (L : Lw) (A B : List Int) : Nat → Nat → Int
  | 0 => fun j => 5 * (j : Int)
  | i + 1 => fN L (gi A i) B i (fD L A B i)
theorem fD_r {L : Lw} (hw : Wf L) (A B : List Int) : ∀ (i j : Nat), 0 ≤ fD L A B i j ∧ fD L A B i j ≤ 5 * ((i : Int) + j)
  | 0, j => by
    have e : fD L A B 0 j = 5 * (j : Int) := rfl
    omega
  | i + 1, 0 => by
    have e : fD L A B (i + 1) 0 = 5 * ((i : Int) + 1) := rfl
    omega
  | i + 1, j + 1 => by
    have e : fD L A B (i + 1) (j + 1) = min (fD L A B i j + chg L (gi A i) (gi B j)) (min (fD L A B i (j + 1)) (fD L A B (i + 1) j) + 5) := rfl
    have h1 := fD_r hw A B i j
    have h2 := fD_r hw A B i (j + 1)
    have h3 := fD_r hw A B (i + 1) j
    have h4 := chg_r hw (gi A i) (gi B j)
    omega
def farL (L : Lw) (A B : List Int) : Int := fD L A B A.length B.length
def aFar (L : Lw) (W S : List (List Int)) (a b : Int) : Int := match wd W S a, wd W S b with
  | some A, some B => farL L A B
  | _, _ => -1
def near (L : Lw) (W : List (List Int)) (w : Int) (l : List Int) : Nat → Int → Int → Int → Int
  | 0, _, b, _ => b
  | n + 1, i, b, m => if 100 + i = w then near L W w l n (i + 1) b m else if b = -1 ∨ farL L l (W.getD i.toNat []) < m then near L W w l n (i + 1) (100 + i) (farL L l (W.getD i.toNat [])) else near L W w l n (i + 1) b m
theorem near_s (L : Lw) (W : List (List Int)) (w : Int) (l : List Int) (n : Nat) (i b m : Int) : near L W w l (n + 1) i b m = if 100 + i = w then near L W w l n (i + 1) b m else if b = -1 ∨ farL L l (W.getD i.toNat []) < m then near L W w l n (i + 1) (100 + i) (farL L l (W.getD i.toNat [])) else near L W w l n (i + 1) b m := rfl
def aNear (L : Lw) (W S : List (List Int)) (w : Int) : Int := match wd W S w with
  | some l => near L W w l W.length 0 (-1) 0
  | none => -1
section FR
variable {M : Mem} {p q r r' a b w : Int} {L : Lw} {W S : List (List Int)} {A B l : List Int} {c : Int → Int}
theorem s96 {Q : Int → Mem → Prop} (h : LawIs M p L) (hA : RowIs M r A) (sA : RowS r) (hB : RowIs M r' B) (sB : RowS r') (hQ : ∀ M' : Mem, Fr M M' → Q (farL L A B) M') : WI 96 [vR (p + 1), vR r, vR r'] M Q := by
  have hp := h.1
  have hw := h.2.2.2.2.2
  have scr : Scr (p + 5) := by unfold LwC at hp; unfold Scr; omega
  have fr : ∀ {N : Mem}, (∀ k : Int, k ≠ p + 5 → N k = M k) → Fr M N := fun {N} g => ⟨fun k hk => g k (fun e => hk (by rw [e]; exact scr)), fun j _ _ => ⟨by rw [g 4 (by unfold LwC at hp; omega)], by rw [g 9 (by unfold LwC at hp; omega)], by rw [g 53 (by unfold LwC at hp; omega)]⟩, by rw [g 64 (by unfold LwC at hp; omega)], by rw [g 5 (by unfold LwC at hp; omega)]⟩
  have z5 : shA SH (p + 5) = (20, 13) := by
    have := shL hp
    unfold ShL at this
    exact this.2.2.2.2.2.2.1
  have hA12 := hA.2.2.2.1
  have hB12 := hB.2.2.2.1
  have e3 : ∀ {N : Mem}, (∀ k : Int, k ≠ p + 5 → N k = M k) → N (p + 1) 3 = p + 5 := fun {N} g => by
    have := (h.fr (fr g)).2.1
    unfold PtrL at this
    exact this.2.2.2.2.2.2.2.2.1
  have g5 : ∀ {j : Int}, 0 ≤ j → j < 13 → gA 20 (p + 5) j := fun {j} a b => gC z5 a b
  have bd := fun i j : Nat => fD_r hw A B i j
  have lp : ∀ (n i : Nat) (l5 l6 l7 : Option AV) (N : Mem), i + n = A.length → (∀ k : Int, k ≠ p + 5 → N k = M k) → (∀ j : Nat, j ≤ B.length → N (p + 5) j = fD L A B i j) → WR 96 39 [some (vR (p + 1)), some (vR r), some (vR r'), some (vI B.length), some (vI i), l5, l6, l7] [] N (fun r M' => ∃ x, r = vI x ∧ Q x M') := by
    intro n
    induction n with
    | zero =>
      intro i l5 l6 l7 N hi g hk
      have rA := hA.fr' sA (fr g)
      refine t_96_39 h.o.2 ?_
      rw [rA.2.2.1, e3 g, hk B.length (Nat.le_refl _)]
      refine ⟨⟨rA.1.1, by rw [rA.1.2.1]⟩, by omega, by omega, ?_⟩
      rw [if_pos (by omega)]
      refine ⟨g5 (by omega) (by omega), _, rfl, ?_⟩
      have := hQ N (fr g)
      unfold farL at this
      rw [← hi, Nat.add_zero] at this
      exact this
    | succ n ih =>
      intro i l5 l6 l7 N hi g hk
      have rA := hA.fr' sA (fr g)
      refine t_96_39 h.o.2 ?_
      rw [rA.2.2.1, e3 g, show N (p + 5) 0 = fD L A B i 0 from hk 0 (by omega)]
      refine ⟨⟨rA.1.1, by rw [rA.1.2.1]⟩, by omega, by omega, ?_⟩
      rw [if_neg (by omega)]
      refine ⟨g5 (by decide) (by decide), g5 (by decide) (by decide), ?_⟩
      have inner : ∀ (m j : Nat) (l7 : Option AV) (N : Mem), j + m = B.length → (∀ k : Int, k ≠ p + 5 → N k = M k) → (∀ t : Nat, t ≤ B.length → N (p + 5) t = if t ≤ j then fD L A B (i + 1) t else fD L A B i t) → WR 96 71 [some (vR (p + 1)), some (vR r), some (vR r'), some (vI B.length), some (vI i), some (vI (fD L A B i j)), some (vI ((j : Int) + 1)), l7] [] N (fun r M' => ∃ x, r = vI x ∧ Q x M') := by
        intro m
        induction m with
        | zero =>
          intro j l7 N hj g hk
          refine t_96_71 h.o.2 ⟨by omega, by omega, ?_⟩
          rw [if_pos (by omega)]
          exact ih (i + 1) _ _ _ N (by omega) g (fun t ht => by rw [hk t ht, if_pos (by omega)])
        | succ m ihm =>
          intro j l7 N hj g hk
          have rA := hA.fr' sA (fr g)
          have rB := hB.fr' sB (fr g)
          have qA := gi_dg' rA.2.2.2.2.1 i
          have qB := gi_dg' rB.2.2.2.2.1 j
          have hN := h.fr (fr g)
          have ej : N (p + 5) ((j : Int) + 1) = fD L A B i (j + 1) := by
            have := hk (j + 1) (by omega)
            rw [if_neg (by omega)] at this
            exact this
          have ej0 : N (p + 5) (j : Int) = fD L A B (i + 1) j := by
            have := hk j (by omega)
            rw [if_pos (Nat.le_refl _)] at this
            exact this
          have b1 := bd i (j + 1)
          have b2 := bd (i + 1) j
          have b3 := bd i j
          have b4 := chg_r hw (gi A i) (gi B j)
          refine t_96_71 h.o.2 ⟨by omega, by omega, ?_⟩
          rw [if_neg (by omega), s82 rA (by omega), Int.add_sub_cancel, s82 rB (by omega), s97 hN (by omega) (by omega), e3 g, ej, ej0]
          refine ⟨by rw [rA.1.2.1], by rw [rB.1.2.1], g5 (by omega) (by omega), g5 (by omega) (by omega), g5 (by omega) (by omega), ⟨by omega, by omega⟩, ⟨by omega, by omega⟩, g5 (by omega) (by omega), ?_⟩
          refine ihm (j + 1) _ _ (by omega) (fun k a => by rw [upM_o a]; exact g k a) (fun t ht => ?_)
          by_cases q : t = j + 1
          · rw [q, if_pos (Nat.le_refl _), show ((j + 1 : Nat) : Int) = (j : Int) + 1 from rfl, upM_s]
            rfl
          · rw [upM_f (by omega), hk t ht]
            by_cases q2 : t ≤ j
            · rw [if_pos q2, if_pos (by omega)]
            · rw [if_neg q2, if_neg (by omega)]
      have := inner B.length 0 l7 (upM N (p + 5) 0 (((i : Int) + 1) * 5)) (by omega) (fun k a => by rw [upM_o a]; exact g k a) (fun t ht => by
        by_cases q : t = 0
        · rw [q, if_pos (Nat.le_refl _)]
          show upM N (p + 5) 0 _ (p + 5) 0 = 5 * ((i : Int) + 1)
          rw [upM_s, Int.mul_comm]
        · rw [upM_f (by omega), hk t ht, if_neg (by omega)])
      exact this
  have st : ∀ (n j : Nat) (N : Mem), j + n = B.length + 1 → (∀ k : Int, k ≠ p + 5 → N k = M k) → (∀ t : Nat, t < j → N (p + 5) t = fD L A B 0 t) → WR 96 13 [some (vR (p + 1)), some (vR r), some (vR r'), some (vI B.length), some (vI j), none, none, none] [] N (fun r M' => ∃ x, r = vI x ∧ Q x M') := by
    intro n
    induction n with
    | zero =>
      intro j N hj g hk
      refine t_96_13 h.o.2 ⟨by omega, by omega, ?_⟩
      rw [if_pos (by omega)]
      exact lp A.length 0 _ _ _ N (by omega) g (fun t ht => hk t (by omega))
    | succ n ih =>
      intro j N hj g hk
      refine t_96_13 h.o.2 ⟨by omega, by omega, ?_⟩
      rw [if_neg (by omega), e3 g]
      refine ⟨g5 (by omega) (by omega), ih (j + 1) _ (by omega) (fun k a => by rw [upM_o a]; exact g k a) (fun t ht => ?_)⟩
      by_cases q : t = j
      · rw [q, upM_s, Int.mul_comm]
        rfl
      · rw [upM_f (by omega)]
        exact hk t (by omega)
  refine t_96 h.o.2 ?_
  rw [hB.2.2.1, Int.min_eq_left (by omega)]
  exact ⟨⟨hB.1.1, by rw [hB.1.2.1]⟩, ⟨by omega, by decide⟩, st (B.length + 1) 0 M (by omega) (fun _ _ => rfl) (fun t ht => by omega)⟩
theorem cFar {Q : Int → Mem → Prop} (h : ClsQ M p q L W S c) (ha : inR a) (hb : inR b) (hQ : ∀ M' : Mem, Fr M M' → Q (aFar L W S a b) M') : WI 159 [vR 1, vI a, vI b] M Q := by
  have ra := wP_r (w := a) h
  have rb := wP_r (w := b) h
  have hL := h.1.1
  have p7 := h.2.2.2.2.2.2.2.2.2.2.2.1
  have h0 : M p 0 = p + 1 := hL.2.1.1
  unfold aFar at hQ
  refine t_159 o1.1 ?_
  rw [s175 h ha, s175 h hb]
  refine ⟨by omega, ?_⟩
  cases ea : wd W S a with
  | none =>
    rw [ea] at hQ
    rw [wP_none ea, if_pos rfl]
    exact ⟨_, rfl, hQ M Fr.rf⟩
  | some A =>
    rw [ea] at hQ
    obtain ⟨xa, ya⟩ := wP_some h ea
    rw [if_neg (by have := xa.1.1; omega)]
    refine ⟨by omega, ?_⟩
    cases eb : wd W S b with
    | none =>
      rw [eb] at hQ
      rw [wP_none eb, if_pos rfl]
      exact ⟨_, rfl, hQ M Fr.rf⟩
    | some B =>
      rw [eb] at hQ
      obtain ⟨xb, yb⟩ := wP_some h eb
      rw [if_neg (by have := xb.1.1; omega), p7, h0]
      exact ⟨hL.o.1, hL.o.2.2, s96 hL xa ya xb yb (fun M' g => ⟨_, rfl, hQ M' g⟩)⟩
theorem m268 {Q : Int → Mem → Prop} (h : MdlQ M L W S c) (hA : WdIs W S a A) (hB : WdIs W S b B) (hQ : ∀ M' : Mem, FrM M M' → Q (farL L A B) M') : WI 268 [vR 204, vI a, vI b] M Q := by
  have hw := h.1.2.2.2.2
  have oA := (hA.ok h.2.1 h.2.2.1).1
  have oB := (hB.ok h.2.1 h.2.2.1).1
  have hA12 := oA.2.1
  have hB12 := oB.2.1
  have z40 : shA SH 240 = (20, 13) ∧ shA SH 241 = (20, 13) := by decide +kernel
  have fr : ∀ {N : Mem}, (∀ k : Int, k ≠ 240 → k ≠ 241 → N k = M k) → FrM M N := fun {N} g => ⟨fun k a b => g k (by omega) (by omega), fun j _ _ _ _ => by rw [g 204 (by decide) (by decide)]⟩
  have e74 : ∀ {N : Mem}, (∀ k : Int, k ≠ 240 → k ≠ 241 → N k = M k) → N 204 74 = 240 := fun {N} g => (h.fr (fr g)).1.1.at (by decide)
  have e75 : ∀ {N : Mem}, (∀ k : Int, k ≠ 240 → k ≠ 241 → N k = M k) → N 204 75 = 241 := fun {N} g => (h.fr (fr g)).1.1.at (by decide)
  have g40 : ∀ {j : Int}, 0 ≤ j → j < 13 → gA 20 240 j := fun {j} a b => gC z40.1 a b
  have g41 : ∀ {j : Int}, 0 ≤ j → j < 13 → gA 20 241 j := fun {j} a b => gC z40.2 a b
  have bd := fun i j : Nat => fD_r hw A B i j
  have lp : ∀ (n i : Nat) (l6 : Option AV) (N : Mem), i + n = A.length → (∀ k : Int, k ≠ 240 → k ≠ 241 → N k = M k) → (∀ j : Nat, j ≤ B.length → N 240 j = fD L A B i j) → WR 268 43 [some (vR 204), some (vI a), some (vI b), some (vI A.length), some (vI B.length), some (vI i), l6] [] N (fun r M' => ∃ x, r = vI x ∧ Q x M') := by
    intro n
    induction n with
    | zero =>
      intro i l6 N hi g hk
      refine t_268_43 o204 ⟨by omega, by omega, ?_⟩
      rw [if_pos (by omega), e74 g, hk B.length (Nat.le_refl _)]
      refine ⟨g40 (by omega) (by omega), _, rfl, ?_⟩
      have := hQ N (fr g)
      unfold farL at this
      rw [← hi, Nat.add_zero] at this
      exact this
    | succ n ih =>
      intro i l6 N hi g hk
      refine t_268_43 o204 ⟨by omega, by omega, ?_⟩
      rw [if_neg (by omega), e75 g]
      refine ⟨g41 (by decide) (by decide), ?_⟩
      have cpy : ∀ (m j : Nat) (N : Mem), j + m = B.length + 1 → (∀ k : Int, k ≠ 240 → k ≠ 241 → N k = M k) → (∀ t : Nat, t ≤ B.length → N 241 t = fD L A B (i + 1) t) → (∀ t : Nat, t < j → N 240 t = fD L A B (i + 1) t) → WR 268 139 [some (vR 204), some (vI a), some (vI b), some (vI A.length), some (vI B.length), some (vI i), some (vI j)] [] N (fun r M' => ∃ x, r = vI x ∧ Q x M') := by
        intro m
        induction m with
        | zero =>
          intro j N hj g h1 h2
          refine t_268_139 o204 ⟨by omega, by omega, ?_⟩
          rw [if_pos (by omega)]
          exact ih (i + 1) _ N (by omega) g (fun t ht => h2 t (by omega))
        | succ m ihm =>
          intro j N hj g h1 h2
          refine t_268_139 o204 ⟨by omega, by omega, ?_⟩
          rw [if_neg (by omega), e74 g, e75 g, h1 j (by omega)]
          refine ⟨g41 (by omega) (by omega), g40 (by omega) (by omega), ihm (j + 1) _ (by omega) (fun k x y => by rw [upM_o x]; exact g k x y) (fun t ht => by rw [upM_o (by decide)]; exact h1 t ht) (fun t ht => ?_)⟩
          by_cases q : t = j
          · rw [q, upM_s]
          · rw [upM_f (by omega)]
            exact h2 t (by omega)
      have inner : ∀ (m j : Nat) (N : Mem), j + m = B.length → (∀ k : Int, k ≠ 240 → k ≠ 241 → N k = M k) → (∀ t : Nat, t ≤ j → N 241 t = fD L A B (i + 1) t) → (∀ t : Nat, t ≤ B.length → N 240 t = fD L A B i t) → WR 268 64 [some (vR 204), some (vI a), some (vI b), some (vI A.length), some (vI B.length), some (vI i), some (vI j)] [] N (fun r M' => ∃ x, r = vI x ∧ Q x M') := by
        intro m
        induction m with
        | zero =>
          intro j N hj g h1 h2
          refine t_268_64 o204 ⟨by omega, by omega, ?_⟩
          rw [if_pos (by omega)]
          exact cpy (B.length + 1) 0 N (by omega) g (fun t ht => h1 t (by omega)) (fun t ht => by omega)
        | succ m ihm =>
          intro j N hj g h1 h2
          have hN := h.fr (fr g)
          have qA := oA.2.2 _ (gi_mem (l := A) (i := (i : Int)) (by omega) (by omega))
          have qB := oB.2.2 _ (gi_mem (l := B) (i := (j : Int)) (by omega) (by omega))
          have b1 := bd i (j + 1)
          have b2 := bd (i + 1) j
          have b3 := bd i j
          have b4 := chg_r hw (gi A i) (gi B j)
          have ej : N 240 ((j : Int) + 1) = fD L A B i (j + 1) := h2 (j + 1) (by omega)
          refine t_268_64 o204 ⟨by omega, by omega, ?_⟩
          rw [if_neg (by omega), m222 hN.1.1 hN.2.1 hN.2.2.1 hA (by omega) (by omega), m222 hN.1.1 hN.2.1 hN.2.2.1 hB (by omega) (by omega), m267 hN.1 qA.1 qA.2 qB.1 qB.2, e74 g, e75 g, ej, h2 j (by omega), h1 j (by omega), m179 (by omega) (by omega), m179 (by omega) (by omega)]
          refine ⟨g40 (by omega) (by omega), g40 (by omega) (by omega), g41 (by omega) (by omega), g41 (by omega) (by omega), ihm (j + 1) _ (by omega) (fun k x y => by rw [upM_o y]; exact g k x y) (fun t ht => ?_) (fun t ht => by rw [upM_o (by decide)]; exact h2 t ht)⟩
          by_cases q : t = j + 1
          · rw [q, show ((j + 1 : Nat) : Int) = (j : Int) + 1 from rfl, upM_s, Int.add_comm 5]
            rfl
          · rw [upM_f (by omega)]
            exact h1 t (by omega)
      exact inner B.length 0 _ (by omega) (fun k x y => by rw [upM_o y]; exact g k x y) (fun t ht => by
        rw [show t = 0 by omega]
        exact upM_s) (fun t ht => by rw [upM_o (by decide)]; exact hk t ht)
  have st : ∀ (n j : Nat) (N : Mem), j + n = B.length + 1 → (∀ k : Int, k ≠ 240 → k ≠ 241 → N k = M k) → (∀ t : Nat, t < j → N 240 t = fD L A B 0 t) → WR 268 16 [some (vR 204), some (vI a), some (vI b), some (vI A.length), some (vI B.length), some (vI j), none] [] N (fun r M' => ∃ x, r = vI x ∧ Q x M') := by
    intro n
    induction n with
    | zero =>
      intro j N hj g hk
      refine t_268_16 o204 ⟨by omega, by omega, ?_⟩
      rw [if_pos (by omega)]
      exact lp A.length 0 _ N (by omega) g (fun t ht => hk t (by omega))
    | succ n ih =>
      intro j N hj g hk
      refine t_268_16 o204 ⟨by omega, by omega, ?_⟩
      rw [if_neg (by omega), e74 g]
      refine ⟨g40 (by omega) (by omega), ih (j + 1) _ (by omega) (fun k x y => by rw [upM_o x]; exact g k x y) (fun t ht => ?_)⟩
      by_cases q : t = j
      · rw [q, upM_s]
        rfl
      · rw [upM_f (by omega)]
        exact hk t (by omega)
  refine t_268 o204 ?_
  rw [m221 h.1.1 h.2.1 h.2.2.1 hA, m221 h.1.1 h.2.1 h.2.2.1 hB]
  exact st (B.length + 1) 0 M (by omega) (fun _ _ _ => rfl) (fun t ht => by omega)
theorem mFar {Q : Int → Mem → Prop} (h : MdlQ M L W S c) (ha : inR a) (hb : inR b) (hQ : ∀ M' : Mem, FrM M M' → Q (aFar L W S a b) M') : WI 269 [vR 204, vI a, vI b] M Q := by
  unfold aFar at hQ
  refine t_269 o204 ?_
  rw [m219 h ha]
  cases ea : wd W S a with
  | none =>
    rw [ea] at hQ
    exact ⟨by decide, by rw [show b2i (Option.isSome (none : Option (List Int))) = 0 from rfl, if_pos rfl]; exact ⟨_, rfl, hQ M FrM.rf⟩⟩
  | some A =>
    rw [ea] at hQ
    rw [show b2i (Option.isSome (some A)) = 1 from rfl, if_neg (by decide), m219 h hb]
    refine ⟨by decide, ?_⟩
    cases eb : wd W S b with
    | none =>
      rw [eb] at hQ
      exact ⟨by decide, by rw [show b2i (Option.isSome (none : Option (List Int))) = 0 from rfl, if_pos rfl]; exact ⟨_, rfl, hQ M FrM.rf⟩⟩
    | some B =>
      rw [eb] at hQ
      rw [show b2i (Option.isSome (some B)) = 1 from rfl, if_neg (by decide)]
      exact ⟨by decide, m268 h (wd_is ea) (wd_is eb) (fun M' g => ⟨_, rfl, hQ M' g⟩)⟩
theorem farL_r (hw : Wf L) (A B : List Int) (hA : A.length ≤ 12) (hB : B.length ≤ 12) : 0 ≤ farL L A B ∧ farL L A B ≤ 120 := by
  have := fD_r hw A B A.length B.length
  unfold farL
  omega
theorem cNear {Q : Int → Mem → Prop} (h : ClsQ M p q L W S c) (hi : inR w) (hQ : ∀ M' : Mem, Fr M M' → Q (aNear L W S w) M') : WI 160 [vR 1, vI w] M Q := by
  have rw' := wP_r (w := w) h
  have hwf := h.1.1.2.2.2.2.2
  unfold aNear at hQ
  refine t_160 o1.1 ?_
  rw [s175 h hi]
  refine ⟨by omega, ?_⟩
  cases e : wd W S w with
  | none =>
    rw [e] at hQ
    rw [wP_none e, if_pos rfl]
    exact ⟨_, rfl, hQ M Fr.rf⟩
  | some l =>
    rw [e] at hQ
    dsimp only at hQ
    obtain ⟨xl, yl⟩ := wP_some h e
    rw [if_neg (by have := xl.1.1; omega)]
    have hl12 := xl.2.2.2.1
    have hW20 := h.1.2.1.2.2.2.1
    have key : ∀ (n i : Nat) (b m : Int) (l6 l7 : Option AV) (N : Mem), i + n = W.length → inR b → inR m → Fr M N → (∀ M' : Mem, Fr M M' → Q (near L W w l n i b m) M') → WR 160 20 [some (vR 1), some (vI w), some (vR (wP M p q W S w)), some (vI b), some (vI m), some (vI i), l6, l7] [] N (fun r M' => ∃ x, r = vI x ∧ Q x M') := by
      intro n
      induction n with
      | zero =>
        intro i b m l6 l7 N hi' hb hm g hQ
        have hN := h.fr g
        have p7 := hN.2.2.2.2.2.2.2.2.2.2.2.1
        have h1 : N p 1 = p + 8 := hN.1.1.2.1.2.1
        have e8 : gO 10 (p + 8) := ⟨hN.1.2.1.1.1, by rw [hN.1.2.1.1.2.1]⟩
        refine t_160_20 o1.1 ?_
        rw [p7, h1, hN.1.2.1.2.2.1]
        refine ⟨hN.1.1.o.1, e8, by omega, by omega, ?_⟩
        rw [if_pos (by omega)]
        exact ⟨_, rfl, hQ N g⟩
      | succ n ih =>
        intro i b m l6 l7 N hi' hb hm g hQ
        have hN := h.fr g
        have p7 := hN.2.2.2.2.2.2.2.2.2.2.2.1
        have h1 : N p 1 = p + 8 := hN.1.1.2.1.2.1
        have h0 : N p 0 = p + 1 := hN.1.1.2.1.1
        have e8 : gO 10 (p + 8) := ⟨hN.1.2.1.1.1, by rw [hN.1.2.1.1.2.1]⟩
        obtain ⟨xo, yo, -⟩ := wrd_at (lw8 hN.1.1.1) hN.1.2.1 (i := (i : Int)) (by omega) (by omega)
        have xo0 := xo.1.1
        rw [near_s] at hQ
        refine t_160_20 o1.1 ?_
        rw [p7, h1, hN.1.2.1.2.2.1, s136 hN.1.2.1 (by omega), if_pos (show 0 ≤ (i : Int) ∧ (i : Int) < W.length by omega)]
        refine ⟨hN.1.1.o.1, e8, by omega, by omega, ?_⟩
        rw [if_neg (by omega)]
        refine ⟨hN.1.1.o.1, e8.2, by omega, ?_⟩
        rw [if_neg (by omega)]
        refine ⟨by omega, hi, ?_⟩
        by_cases q1 : 100 + (i : Int) = w
        · rw [if_pos q1] at hQ ⊢
          exact ih (i + 1) b m _ _ N (by omega) hb hm g hQ
        rw [if_neg q1] at hQ ⊢
        rw [p7, h0]
        have hf := farL_r hwf l (W.getD (i : Int).toNat []) hl12 xo.2.2.2.1
        refine ⟨hN.1.1.o.1, hN.1.1.o.2.2, s96 hN.1.1 (xl.fr' yl g) yl xo yo (fun M1 g1 => ⟨hb, ?_⟩)⟩
        have gg := g.tr g1
        by_cases q2 : b = -1
        · rw [if_pos q2]
          rw [if_pos (Or.inl q2)] at hQ
          exact ih (i + 1) _ _ _ _ M1 (by omega) (by omega) (by omega) gg hQ
        rw [if_neg q2]
        refine ⟨by omega, hm, ?_⟩
        by_cases q3 : m ≤ farL L l (W.getD (i : Int).toNat [])
        · rw [if_pos q3]
          rw [if_neg (by omega)] at hQ
          exact ih (i + 1) _ _ _ _ M1 (by omega) hb hm gg hQ
        · rw [if_neg q3]
          rw [if_pos (Or.inr (by omega))] at hQ
          exact ih (i + 1) _ _ _ _ M1 (by omega) (by omega) (by omega) gg hQ
    exact key W.length 0 (-1) 0 _ _ M (by omega) (by decide) (by decide) Fr.rf hQ
theorem mNear {Q : Int → Mem → Prop} (h : MdlQ M L W S c) (hi : inR w) (hQ : ∀ M' : Mem, FrM M M' → Q (aNear L W S w) M') : WI 270 [vR 204, vI w] M Q := by
  have hwf := h.1.2.2.2.2
  have hW20 := h.2.1.2.1
  unfold aNear at hQ
  refine t_270 o204 ?_
  rw [m219 h hi]
  cases e : wd W S w with
  | none =>
    rw [e] at hQ
    exact ⟨by decide, by rw [show b2i (Option.isSome (none : Option (List Int))) = 0 from rfl, if_pos rfl]; exact ⟨_, rfl, hQ M FrM.rf⟩⟩
  | some l =>
    rw [e] at hQ
    dsimp only at hQ
    have hd := wd_is e
    have hl12 := (hd.ok h.2.1 h.2.2.1).1.2.1
    rw [show b2i (Option.isSome (some l)) = 1 from rfl, if_neg (by decide)]
    refine ⟨by decide, ?_⟩
    have key : ∀ (n i : Nat) (b m : Int) (l5 : Option AV) (N : Mem), i + n = W.length → inR b → inR m → FrM M N → (∀ M' : Mem, FrM M M' → Q (near L W w l n i b m) M') → WR 270 18 [some (vR 204), some (vI w), some (vI b), some (vI m), some (vI (100 + (i : Int))), l5] [] N (fun r M' => ∃ x, r = vI x ∧ Q x M') := by
      intro n
      induction n with
      | zero =>
        intro i b m l5 N hi' hb hm g hQ
        have hN := h.fr g
        refine t_270_18 o204 ?_
        rw [hN.1.1.at (show ((61 : Int), (230 : Int)) ∈ mpT by decide), hN.2.1.1]
        refine ⟨gC z230 (by decide) (by decide), by omega, by omega, ?_⟩
        rw [if_pos (by omega)]
        exact ⟨_, rfl, hQ N g⟩
      | succ n ih =>
        intro i b m l5 N hi' hb hm g hQ
        have hN := h.fr g
        have ho : WdIs W S (100 + (i : Int)) (W.getD (i : Int).toNat []) := Or.inr ⟨by omega, by omega, by rw [show 100 + (i : Int) - 100 = i by omega]⟩
        have ho12 := (ho.ok h.2.1 h.2.2.1).1.2.1
        have hf := farL_r hwf l (W.getD (i : Int).toNat []) hl12 ho12
        rw [near_s] at hQ
        refine t_270_18 o204 ?_
        rw [hN.1.1.at (show ((61 : Int), (230 : Int)) ∈ mpT by decide), hN.2.1.1]
        refine ⟨gC z230 (by decide) (by decide), by omega, by omega, ?_⟩
        rw [if_neg (by omega)]
        refine ⟨hi, ?_⟩
        have en : 100 + (i : Int) + 1 = 100 + ((i + 1 : Nat) : Int) := by omega
        rw [en]
        by_cases q1 : 100 + (i : Int) = w
        · rw [if_pos q1] at hQ ⊢
          exact ih (i + 1) b m _ N (by omega) hb hm g hQ
        rw [if_neg q1] at hQ ⊢
        refine m268 hN hd ho (fun M1 g1 => ⟨hb, ?_⟩)
        have gg := g.tr g1
        by_cases q2 : b = -1
        · rw [if_pos q2]
          rw [if_pos (Or.inl q2)] at hQ
          exact ih (i + 1) _ _ _ M1 (by omega) (by omega) (by omega) gg hQ
        rw [if_neg q2]
        refine ⟨by omega, hm, ?_⟩
        by_cases q3 : farL L l (W.getD (i : Int).toNat []) < m
        · rw [if_pos q3]
          rw [if_pos (Or.inr q3)] at hQ
          exact ih (i + 1) _ _ _ M1 (by omega) (by omega) (by omega) gg hQ
        · rw [if_neg q3]
          rw [if_neg (by omega)] at hQ
          exact ih (i + 1) _ _ _ M1 (by omega) hb hm gg hQ
    exact key W.length 0 (-1) 0 _ M (by omega) (by decide) (by decide) FrM.rf hQ
end FR
