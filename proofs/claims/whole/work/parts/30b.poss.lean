/-! WHAT IS POSSIBLE, part two: the class. -/
theorem cp16 {M : Mem} {a b j : Int} (h0 : 0 ≤ j) (h1 : j < 16) : cpM M a b 0 0 16 b j = M a j := by
  unfold cpM
  rw [if_pos ⟨rfl, by omega, by omega⟩]
  congr 1
  omega
theorem cp16o {M : Mem} {a b k : Int} (h : k ≠ b) : cpM M a b 0 0 16 k = M k := by
  funext j
  unfold cpM
  rw [if_neg (fun z => h z.1)]
section PC
variable {M : Mem} {p q : Int} {L : Lw} {W S : List (List Int)} {c : Int → Int}
theorem s101 {Q : Int → Mem → Prop} {i : Nat} {st : Int} {g : Nat → Int} (h : LawIs M p L) (hi : i < 16) (hst : inR st) (hg : ∀ j : Nat, j < Ln L → M (p + 6) j = g j) : WI 101 [vR (p + 1), vI i, vI st] M Q = Q (sN (fun j => if rlU L st i j = true then g j else 0) (Ln L)) M := by
  obtain ⟨h6, hn⟩ := h.n
  have hw := h.2.2.2.2.2
  have e4 : M (p + 1) 4 = p + 6 := by
    have := h.2.1
    unfold PtrL at this
    exact this.2.2.2.2.2.2.2.2.2.1
  have z6 : shA SH (p + 6) = (20, 16) := by
    have := shL h.1
    unfold ShL at this
    exact this.2.2.2.2.2.2.2.1
  have key : ∀ (n j : Nat) (P : AV → Mem → Prop), j + n = Ln L → P (vI (sN (fun j => if rlU L st i j = true then g j else 0) (Ln L))) M → WR 101 5 [some (vR (p + 1)), some (vI i), some (vI st), some (vI (sN (fun j => if rlU L st i j = true then g j else 0) j)), some (vI j)] [] M P := by
    intro n
    induction n with
    | zero =>
      intro j P hj hP
      refine t_101_5 h.o.2 ?_
      rw [h6]
      refine ⟨by omega, by omega, ?_⟩
      rw [if_pos (by omega), show j = Ln L by omega]
      exact hP
    | succ n ih =>
      intro j P hj hP
      have o1 := opn_r hw (i : Int)
      have o2 := opn_r hw (j : Int)
      refine t_101_5 h.o.2 ?_
      rw [h6, s93 h (by omega), s93 h (by omega), e4, hg j (by omega)]
      refine ⟨by omega, by omega, ?_⟩
      rw [if_neg (by omega), if_neg (by omega)]
      refine ⟨by omega, hst, ?_⟩
      have := ih (j + 1) P (by omega) hP
      have e : sN (fun j => if rlU L st i j = true then g j else 0) (j + 1) = sN (fun j => if rlU L st i j = true then g j else 0) j + (if rlU L st i j = true then g j else 0) := rfl
      rw [e] at this
      have er : rlU L st i j = decide (st ≤ opn L (i : Int) - opn L (j : Int)) := rfl
      rw [er] at this
      by_cases q : opn L (i : Int) - opn L (j : Int) < st
      · rw [if_pos q]
        rw [decide_eq_false (by omega), if_neg (show ¬ false = true by decide), Int.add_zero] at this
        exact this
      · rw [if_neg q]
        rw [decide_eq_true (by omega), if_pos rfl] at this
        exact ⟨gC z6 (by omega) (by show _ < ((16 : Nat) : Int); omega), this⟩
  exact FN.wi (WC.fn (t_101 h.o.2 (key (Ln L) 0 _ (by omega) ⟨rfl, rfl⟩)))
theorem s100 {Q : Int → Mem → Prop} {size : Nat} {st : Int} (h : LawIs M p L) (hs : 1 ≤ size ∧ size ≤ 6) (hst : inR st) (hQ : ∀ M' : Mem, Fr M M' → Q (chn L st size) M') : WI 100 [vR (p + 1), vI size, vI st] M Q := by
  have hp := h.1
  obtain ⟨h6, hn⟩ := h.n
  have z6 : shA SH (p + 6) = (20, 16) ∧ shA SH (p + 7) = (20, 16) := by
    have := shL hp
    unfold ShL at this
    exact ⟨this.2.2.2.2.2.2.2.1, this.2.2.2.2.2.2.2.2.1⟩
  have scr : Scr (p + 6) ∧ Scr (p + 7) := by unfold LwC at hp; unfold Scr; omega
  have fr : ∀ {N : Mem}, (∀ k : Int, k ≠ p + 6 → k ≠ p + 7 → N k = M k) → Fr M N := fun {N} g => ⟨fun k hk => g k (fun e => hk (by rw [e]; exact scr.1)) (fun e => hk (by rw [e]; exact scr.2)), fun j _ _ => ⟨by rw [g 4 (by unfold LwC at hp; omega) (by unfold LwC at hp; omega)], by rw [g 9 (by unfold LwC at hp; omega) (by unfold LwC at hp; omega)], by rw [g 53 (by unfold LwC at hp; omega) (by unfold LwC at hp; omega)]⟩, by rw [g 64 (by unfold LwC at hp; omega) (by unfold LwC at hp; omega)], by rw [g 5 (by unfold LwC at hp; omega) (by unfold LwC at hp; omega)]⟩
  have pt : ∀ {N : Mem}, (∀ k : Int, k ≠ p + 6 → k ≠ p + 7 → N k = M k) → N (p + 1) 4 = p + 6 ∧ N (p + 1) 5 = p + 7 ∧ N (p + 1) 2 = p + 4 ∧ N (p + 1) 6 = Ln L := fun {N} g => by
    have hN := h.fr (fr g)
    have := hN.2.1
    unfold PtrL at this
    exact ⟨this.2.2.2.2.2.2.2.2.2.1, this.2.2.2.2.2.2.2.2.2.2.1, hN.a.2.2, hN.n.1⟩
  have g6 : ∀ {j : Int}, 0 ≤ j → j < 16 → gA 20 (p + 6) j := fun {j} a b => gC z6.1 a b
  have g7 : ∀ {j : Int}, 0 ≤ j → j < 16 → gA 20 (p + 7) j := fun {j} a b => gC z6.2 a b
  have pk : ∀ {N : Mem}, (∀ k : Int, k ≠ p + 6 → k ≠ p + 7 → N k = M k) → ∀ i : Nat, i < Ln L → (gA 21 (p + 4) i ∨ gA 22 (p + 4) i) ∧ N (p + 4) i = b2i (pkn L (i : Int)) := fun {N} g i hi => by
    have hN := h.fr (fr g)
    refine ⟨Or.inr ⟨by rw [hN.as.2.2], by omega, by rw [hN.as.2.2]; show _ < ((16 : Nat) : Int); omega⟩, ?_⟩
    rw [(hN.2.2.1.2 i (by omega) (by omega)).2.2, pkn_eq (by omega) (by omega)]
  have okb : ∀ i : Nat, okP L i = true ↔ b2i (pkn L (i : Int)) = 0 := fun i => by
    unfold okP
    cases pkn L (i : Int) <;> decide
  -- the state behind k links
  have fin : ∀ (n i : Nat) (N : Mem) (a : Int), i + n = 16 → (∀ k : Int, k ≠ p + 6 → k ≠ p + 7 → N k = M k) → (∀ j : Nat, j < 16 → N (p + 6) j = if j < Ln L then chG (rlU L st) (okP L) (Ln L) (size - 1) j else 0) → a = sN (fun j => if j < Ln L then chG (rlU L st) (okP L) (Ln L) (size - 1) j else 0) i → WR 100 128 [some (vR (p + 1)), some (vI size), some (vI st), some (vI a), some (vI i)] [] N (fun r M' => ∃ x, r = vI x ∧ Q x M') := by
    intro n
    induction n with
    | zero =>
      intro i N a hi g hk ha
      refine t_100_128 h.o.2 ⟨by omega, ?_⟩
      rw [if_pos (by omega)]
      refine ⟨_, rfl, ?_⟩
      have e : a = chn L st size := by
        rw [ha]
        have : ∀ d : Nat, Ln L + d ≤ 16 → sN (fun j => if j < Ln L then chG (rlU L st) (okP L) (Ln L) (size - 1) j else 0) (Ln L + d) = chn L st size := by
          intro d
          induction d with
          | zero =>
            intro _
            exact sN_congr _ fun j hj => if_pos hj
          | succ d ihd =>
            intro hd
            show sN (fun j => if j < Ln L then chG (rlU L st) (okP L) (Ln L) (size - 1) j else 0) (Ln L + d) + (if Ln L + d < Ln L then chG (rlU L st) (okP L) (Ln L) (size - 1) (Ln L + d) else 0) = _
            rw [ihd (by omega), if_neg (by omega), Int.add_zero]
        have := this (16 - Ln L) (by omega)
        rw [show Ln L + (16 - Ln L) = i by omega] at this
        exact this
      rw [e]
      exact hQ N (fr g)
    | succ n ih =>
      intro i N a hi g hk ha
      refine t_100_128 h.o.2 ⟨by omega, ?_⟩
      rw [if_neg (by omega), (pt g).1, hk i (by omega)]
      exact ⟨g6 (by omega) (by omega), ih (i + 1) N _ (by omega) g hk (by rw [ha]; rfl)⟩
  have lnk : ∀ (n k : Nat) (l4 : Option AV) (N : Mem), k + n = size - 1 → (∀ t : Int, t ≠ p + 6 → t ≠ p + 7 → N t = M t) → (∀ j : Nat, j < 16 → N (p + 6) j = if j < Ln L then chG (rlU L st) (okP L) (Ln L) k j else 0) → WR 100 44 [some (vR (p + 1)), some (vI size), some (vI st), some (vI ((k : Int) + 2)), l4] [] N (fun r M' => ∃ x, r = vI x ∧ Q x M') := by
    intro n
    induction n with
    | zero =>
      intro k l4 N hk g hc
      refine t_100_44 h.o.2 ⟨by omega, by omega, ?_⟩
      rw [if_pos (by omega)]
      rw [show k = size - 1 by omega] at hc
      exact fin 16 0 N 0 (by omega) g hc rfl
    | succ n ih =>
      intro k l4 N hk g hc
      refine t_100_44 h.o.2 ⟨by omega, by omega, ?_⟩
      rw [if_neg (by omega)]
      have inner : ∀ (m i : Nat) (N : Mem), i + m = 16 → (∀ t : Int, t ≠ p + 6 → t ≠ p + 7 → N t = M t) → (∀ j : Nat, j < 16 → N (p + 6) j = if j < Ln L then chG (rlU L st) (okP L) (Ln L) k j else 0) → (∀ j : Nat, j < i → N (p + 7) j = if j < Ln L then chG (rlU L st) (okP L) (Ln L) (k + 1) j else 0) → WR 100 52 [some (vR (p + 1)), some (vI size), some (vI st), some (vI ((k : Int) + 2)), some (vI i)] [] N (fun r M' => ∃ x, r = vI x ∧ Q x M') := by
        intro m
        induction m with
        | zero =>
          intro i N hi g hc hd
          refine t_100_52 h.o.2 ⟨by omega, ?_⟩
          rw [if_pos (by omega), (pt g).1, (pt g).2.1]
          refine ⟨⟨by rw [z6.2], by rw [z6.1], by omega, by decide, by decide, by decide, by rw [z6.2]; decide, by rw [z6.1]; decide, by decide, by decide, by decide⟩, ?_⟩
          rw [show (k : Int) + 2 + 1 = ((k + 1 : Nat) : Int) + 2 by omega]
          refine ih (k + 1) _ _ (by omega) (fun t a b => by rw [cp16o a]; exact g t a b) (fun j hj => ?_)
          rw [cp16 (by omega) (by omega)]
          exact hd j (by omega)
        | succ m ihm =>
          intro i N hi g hc hd
          have go : ∀ v : Int, v = (if i < Ln L then chG (rlU L st) (okP L) (Ln L) (k + 1) i else 0) → WR 100 52 [some (vR (p + 1)), some (vI size), some (vI st), some (vI ((k : Int) + 2)), some (vI ((i : Int) + 1))] [] (upM N (p + 7) i v) (fun r M' => ∃ x, r = vI x ∧ Q x M') := fun v hv => ihm (i + 1) _ (by omega) (fun t a b => by rw [upM_o b]; exact g t a b) (fun j hj => by rw [upM_o (by omega)]; exact hc j hj) (fun j hj => by
            by_cases e : j = i
            · rw [e, upM_s, hv]
            · rw [upM_f (by omega)]
              exact hd j (by omega))
          refine t_100_52 h.o.2 ⟨by omega, ?_⟩
          rw [if_neg (by omega), (pt g).2.2.2, (pt g).2.1, (pt g).2.2.1]
          refine ⟨by omega, ?_⟩
          by_cases q : (Ln L : Int) ≤ i
          · rw [if_pos q]
            exact ⟨g7 (by omega) (by omega), go 0 (by rw [if_neg (by omega)])⟩
          · rw [if_neg q]
            obtain ⟨p1, p2⟩ := pk g i (by omega)
            rw [p2]
            refine ⟨p1, by have := b2i_r (pkn L (i : Int)); omega, ?_⟩
            by_cases q2 : b2i (pkn L (i : Int)) = 0
            · rw [if_pos q2, s101 (g := chG (rlU L st) (okP L) (Ln L) k) (h.fr (fr g)) (by omega) hst (fun j hj => by rw [hc j (by omega), if_pos hj])]
              refine ⟨g7 (by omega) (by omega), go _ ?_⟩
              rw [if_pos (by omega), chG_s, if_pos ((okb i).mpr q2)]
            · rw [if_neg q2]
              exact ⟨g7 (by omega) (by omega), go 0 (by rw [chG_ok _ _ _ _ _ (fun z => q2 ((okb i).mp z))]; split <;> rfl)⟩
      exact inner 16 0 N (by omega) g hc (fun j hj => by omega)
  have st0 : ∀ (n i : Nat) (N : Mem), i + n = 16 → (∀ t : Int, t ≠ p + 6 → t ≠ p + 7 → N t = M t) → (∀ j : Nat, j < i → N (p + 6) j = if j < Ln L then chG (rlU L st) (okP L) (Ln L) 0 j else 0) → WR 100 2 [some (vR (p + 1)), some (vI size), some (vI st), some (vI i), none] [] N (fun r M' => ∃ x, r = vI x ∧ Q x M') := by
    intro n
    induction n with
    | zero =>
      intro i N hi g hd
      refine t_100_2 h.o.2 ⟨by omega, ?_⟩
      rw [if_pos (by omega)]
      exact lnk (size - 1) 0 none N (by omega) g (fun j hj => hd j (by omega))
    | succ n ih =>
      intro i N hi g hd
      have go : ∀ v : Int, v = (if i < Ln L then chG (rlU L st) (okP L) (Ln L) 0 i else 0) → WR 100 2 [some (vR (p + 1)), some (vI size), some (vI st), some (vI ((i : Int) + 1)), none] [] (upM N (p + 6) i v) (fun r M' => ∃ x, r = vI x ∧ Q x M') := fun v hv => ih (i + 1) _ (by omega) (fun t a b => by rw [upM_o a]; exact g t a b) (fun j hj => by
        by_cases e : j = i
        · rw [e, upM_s, hv]
        · rw [upM_f (by omega)]
          exact hd j (by omega))
      refine t_100_2 h.o.2 ⟨by omega, ?_⟩
      rw [if_neg (by omega), (pt g).2.2.2, (pt g).1, (pt g).2.2.1]
      refine ⟨by omega, ?_⟩
      by_cases q : (Ln L : Int) ≤ i
      · rw [if_pos q]
        exact ⟨g6 (by omega) (by omega), go 0 (by rw [if_neg (by omega)])⟩
      · rw [if_neg q]
        obtain ⟨p1, p2⟩ := pk g i (by omega)
        rw [p2]
        refine ⟨p1, by have := b2i_r (pkn L (i : Int)); omega, ?_⟩
        by_cases q2 : b2i (pkn L (i : Int)) = 0
        · rw [if_pos q2]
          refine ⟨g6 (by omega) (by omega), go _ ?_⟩
          rw [if_pos (by omega)]
          exact (if_pos ((okb i).mpr q2)).symm
        · rw [if_neg q2]
          exact ⟨g6 (by omega) (by omega), go 0 (by rw [chG_ok _ _ _ _ _ (fun z => q2 ((okb i).mp z))]; split <;> rfl)⟩
  exact t_100 h.o.2 (st0 16 0 M (by omega) (fun _ _ _ => rfl) (fun j hj => by omega))
theorem s56 {Q : Int → Mem → Prop} {k : Int} (h : LawIs M p L) (hk : 0 ≤ k ∧ k ≤ 6) (hQ : ∀ M' : Mem, Fr M M' → Q (clC L k) M') : WI 56 [vR p, vI k] M Q := by
  have h0 : M p 0 = p + 1 := h.2.1.1
  have h8 := h.2.2.2.2.1.2.1
  have h9 := h.2.2.2.2.1.2.2.1
  have hz := h.2.2.2.2.2.2.2
  unfold WfZ at hz
  unfold clC at hQ
  refine t_56 h.o.1 ?_
  rw [h8, h0, h9]
  refine ⟨by omega, by omega, ?_⟩
  by_cases q : k ≤ Lz L 1
  · rw [if_pos q] at hQ ⊢
    by_cases q2 : k = 0
    · rw [if_pos q2] at hQ ⊢
      exact ⟨_, rfl, hQ M Fr.rf⟩
    · rw [if_neg q2] at hQ ⊢
      have ek : vI k = vI ((k.toNat : Nat) : Int) := by rw [show ((k.toNat : Nat) : Int) = k by omega]
      rw [ek]
      exact ⟨h.o.2.2, s100 h (by omega) (by omega) (fun M' g => ⟨_, rfl, hQ M' g⟩)⟩
  · rw [if_neg q] at hQ ⊢
    exact ⟨_, rfl, hQ M Fr.rf⟩
theorem s55 {Q : Int → Mem → Prop} {k : Int} (h : LawIs M p L) (hk : inR k) : WI 55 [vR p, vI k] M Q = Q (hrt L k) M := by
  have h0 : M p 0 = p + 1 := h.2.1.1
  have h6 := h.2.2.2.1.2.2.1
  refine FN.wi (WC.fn (t_55 h.o.1 ?_))
  rw [h0, s95 h]
  refine ⟨h.o.2.2, hk, ?_⟩
  unfold hrt
  by_cases q : k = 1
  · rw [if_pos q, if_pos q]
    exact ⟨rfl, rfl⟩
  · rw [if_neg q, if_neg q, h6]
    exact ⟨rfl, rfl⟩
theorem s54 {Q : Int → Mem → Prop} {o : Int} (h : LawIs M p L) (hW : WrdIs M (p + 8) 20 L W) (ho : 0 ≤ o ∧ o ≤ 6) (hQ : ∀ M' : Mem, Fr M M' → Q (opC L W o) M') : WI 54 [vR p, vI o] M Q := by
  have h0 : M p 0 = p + 1 := h.2.1.1
  have h7 := h.2.2.2.2.1.1
  have hz := h.2.2.2.2.2.2.2
  have hz0 := hz.1
  obtain ⟨h6, hn⟩ := h.n
  unfold opC at hQ
  refine t_54 h.o.1 ⟨by omega, ?_⟩
  by_cases q0 : o = 0
  · rw [if_pos q0] at hQ ⊢
    exact ⟨_, rfl, hQ M Fr.rf⟩
  rw [if_neg q0] at hQ ⊢
  by_cases q1 : o = 1
  · rw [if_pos q1] at hQ ⊢
    rw [h0, s95 h, h6, ← chn_1]
    exact ⟨h.o.2, h.o.2.2, _, rfl, hQ M Fr.rf⟩
  rw [if_neg q1] at hQ ⊢
  by_cases q4 : o ≤ 4
  rotate_left
  · rw [if_neg q4] at hQ ⊢
    exact ⟨_, rfl, hQ M Fr.rf⟩
  rw [if_pos q4] at hQ ⊢
  -- the learnt ones
  have p112 : ∀ (n i : Nat) (a : Int) (l4 : Option AV) (N : Mem), i + n = W.length → Fr M N → (∀ M' : Mem, Fr M M' → Q (a + nLrn L W o) M') → WR 54 112 [some (vR p), some (vI o), some (vI (a + sN (fun i => if newL L W i = true ∧ ((leadL L (W.getD i [])).length : Int) = o ∧ (¬ leadL L (W.getD i []) ∈ Ltd L) ∧ rising L (leadL L (W.getD i [])) = false then 1 else 0) i)), some (vI i), l4, none] [] N (fun r M' => ∃ x, r = vI x ∧ Q x M') := by
    intro n
    induction n with
    | zero =>
      intro i a l4 N hi g hQ
      have hN := h.fr g
      have hWN := hW.fr (lw8 h.1) g
      have ho : gO 10 (p + 8) := ⟨hWN.1.1, by rw [hWN.1.2.1]⟩
      refine t_54_112 h.o.1 ?_
      rw [show N p 1 = p + 8 from hN.2.1.2.1, hWN.2.2.1]
      have h20 := hWN.2.2.2.1
      refine ⟨ho, by omega, by omega, ?_⟩
      rw [if_pos (by omega)]
      refine ⟨_, rfl, ?_⟩
      have := hQ N g
      unfold nLrn at this
      rw [show i = W.length by omega]
      exact this
    | succ n ih =>
      intro i a l4 N hi g hQ
      have hN := h.fr g
      have hWN := hW.fr (lw8 h.1) g
      have ho : gO 10 (p + 8) := ⟨hWN.1.1, by rw [hWN.1.2.1]⟩
      have h20 := hWN.2.2.2.1
      have hd := wrd_dg hWN (i := i) (by omega)
      have hl := lead_dg (L := L) hd.1
      have nx : ∀ (v : Int) (l4 : Option AV), v = (if newL L W i = true ∧ ((leadL L (W.getD i [])).length : Int) = o ∧ (¬ leadL L (W.getD i []) ∈ Ltd L) ∧ rising L (leadL L (W.getD i [])) = false then 1 else 0) → WR 54 112 [some (vR p), some (vI o), some (vI (a + sN (fun i => if newL L W i = true ∧ ((leadL L (W.getD i [])).length : Int) = o ∧ (¬ leadL L (W.getD i []) ∈ Ltd L) ∧ rising L (leadL L (W.getD i [])) = false then 1 else 0) i + v)), some (vI ((i : Int) + 1)), l4, none] [] N (fun r M' => ∃ x, r = vI x ∧ Q x M') := fun v l4 hv => by
        have := ih (i + 1) a l4 N (by omega) g hQ
        have e : sN (fun i => if newL L W i = true ∧ ((leadL L (W.getD i [])).length : Int) = o ∧ (¬ leadL L (W.getD i []) ∈ Ltd L) ∧ rising L (leadL L (W.getD i [])) = false then 1 else 0) (i + 1) = sN (fun i => if newL L W i = true ∧ ((leadL L (W.getD i [])).length : Int) = o ∧ (¬ leadL L (W.getD i []) ∈ Ltd L) ∧ rising L (leadL L (W.getD i [])) = false then 1 else 0) i + (if newL L W i = true ∧ ((leadL L (W.getD i [])).length : Int) = o ∧ (¬ leadL L (W.getD i []) ∈ Ltd L) ∧ rising L (leadL L (W.getD i [])) = false then 1 else 0) := rfl
        rw [e, ← hv, ← Int.add_assoc] at this
        exact this
      have nx0 : ∀ l4 : Option AV, ¬ (newL L W i = true ∧ ((leadL L (W.getD i [])).length : Int) = o ∧ (¬ leadL L (W.getD i []) ∈ Ltd L) ∧ rising L (leadL L (W.getD i [])) = false) → WR 54 112 [some (vR p), some (vI o), some (vI (a + sN (fun i => if newL L W i = true ∧ ((leadL L (W.getD i [])).length : Int) = o ∧ (¬ leadL L (W.getD i []) ∈ Ltd L) ∧ rising L (leadL L (W.getD i [])) = false then 1 else 0) i)), some (vI ((i : Int) + 1)), l4, none] [] N (fun r M' => ∃ x, r = vI x ∧ Q x M') := fun l4 hn => by
        have := nx 0 l4 (by rw [if_neg hn])
        rw [Int.add_zero] at this
        exact this
      refine t_54_112 h.o.1 ?_
      rw [show N p 1 = p + 8 from hN.2.1.2.1, hWN.2.2.1, s53 hN hWN (by omega), s52 hN hWN (by omega)]
      refine ⟨ho, by omega, by omega, ?_⟩
      rw [if_neg (by omega)]
      refine ⟨by have := b2i_r (newL L W i); omega, ?_⟩
      cases hv : newL L W i
      · rw [if_pos (by decide)]
        exact nx0 _ (fun z => by rw [hv] at z; exact absurd z.1 (by decide))
      · rw [if_neg (by decide)]
        have hpk : hasPk L (W.getD i []) = true := by
          unfold newL at hv
          rw [Bool.and_eq_true, Bool.and_eq_true] at hv
          exact hv.1.1
        have ek : leadKey L (W.getD i []) = keyOf (leadL L (W.getD i [])) := by unfold leadKey; rw [if_pos hpk]
        rw [ek, s85 hl.1 (by omega)]
        refine ⟨by omega, by omega, ?_⟩
        by_cases e1 : ((leadL L (W.getD i [])).length : Int) = o
        · rw [if_pos e1, s44 hN hl.1 (by omega)]
          refine ⟨by have := b2i_r (decide (leadL L (W.getD i []) ∈ Ltd L)); omega, ?_⟩
          by_cases e2 : leadL L (W.getD i []) ∈ Ltd L
          · rw [decide_eq_true e2, if_neg (by decide)]
            exact nx0 _ (fun z => z.2.2.1 e2)
          · rw [decide_eq_false e2, if_pos (by decide), s49 hN hl.1 (by omega)]
            refine ⟨by have := b2i_r (rising L (leadL L (W.getD i []))); omega, ?_⟩
            cases hr : rising L (leadL L (W.getD i []))
            · rw [if_pos (by decide)]
              exact nx 1 _ (by rw [if_pos ⟨hv, e1, e2, hr⟩])
            · rw [if_neg (by decide)]
              exact nx0 _ (fun z => by rw [hr] at z; exact absurd z.2.2.2 (by decide))
        · rw [if_neg e1]
          exact nx0 _ (fun z => e1 z.2.1)
  -- those that are told
  have p61 : ∀ (n i : Nat) (a : Int) (N : Mem), i + n = (Ltd L).length → Fr M N → (∀ M' : Mem, Fr M M' → Q (a + nTld L o + nLrn L W o) M') → WR 54 61 [some (vR p), some (vI o), some (vI (a + sN (fun i => if (((Ltd L).getD i []).length : Int) = o ∧ rising L ((Ltd L).getD i []) = false then 1 else 0) i)), some (vI i), none, none] [] N (fun r M' => ∃ x, r = vI x ∧ Q x M') := by
    intro n
    induction n with
    | zero =>
      intro i a N hi g hQ
      have hN := h.fr g
      have h12 := hN.2.2.2.2.2.2.1.1
      refine t_54_61 h.o.1 ?_
      rw [hN.2.2.2.1.1]
      refine ⟨by omega, by omega, ?_⟩
      rw [if_pos (by omega)]
      have := p112 W.length 0 (a + nTld L o) none N (by omega) g hQ
      rw [show sN (fun i => if newL L W i = true ∧ ((leadL L (W.getD i [])).length : Int) = o ∧ (¬ leadL L (W.getD i []) ∈ Ltd L) ∧ rising L (leadL L (W.getD i [])) = false then 1 else 0) 0 = 0 from rfl, Int.add_zero] at this
      unfold nTld at this
      rw [show i = (Ltd L).length by omega]
      exact this
    | succ n ih =>
      intro i a N hi g hQ
      have hN := h.fr g
      have h12 := hN.2.2.2.2.2.2.1.1
      have ht := hN.2.2.2.2.2.tdg (gtd (i := i) (xs := Ltd L) (by omega))
      have e2 : N p 2 = p + 51 := by
        have := hN.2.1
        unfold PtrL at this
        exact this.2.2.1
      have z51 : shA SH (p + 51) = (23, 12) := by
        have := shL h.1
        unfold ShL at this
        exact this.2.2.2.2.2.2.2.2.2.2.2.2.1
      have g51 : gA 23 (p + 51) (i : Int) := ⟨by rw [z51], by omega, by rw [z51]; show _ < ((12 : Nat) : Int); omega⟩
      have nx : ∀ v : Int, v = (if (((Ltd L).getD i []).length : Int) = o ∧ rising L ((Ltd L).getD i []) = false then 1 else 0) → WR 54 61 [some (vR p), some (vI o), some (vI (a + sN (fun i => if (((Ltd L).getD i []).length : Int) = o ∧ rising L ((Ltd L).getD i []) = false then 1 else 0) i + v)), some (vI ((i : Int) + 1)), none, none] [] N (fun r M' => ∃ x, r = vI x ∧ Q x M') := fun v hv => by
        have := ih (i + 1) a N (by omega) g hQ
        have e : sN (fun i => if (((Ltd L).getD i []).length : Int) = o ∧ rising L ((Ltd L).getD i []) = false then 1 else 0) (i + 1) = sN (fun i => if (((Ltd L).getD i []).length : Int) = o ∧ rising L ((Ltd L).getD i []) = false then 1 else 0) i + (if (((Ltd L).getD i []).length : Int) = o ∧ rising L ((Ltd L).getD i []) = false then 1 else 0) := rfl
        rw [e, ← hv, ← Int.add_assoc] at this
        exact this
      have nx0 : ¬ ((((Ltd L).getD i []).length : Int) = o ∧ rising L ((Ltd L).getD i []) = false) → WR 54 61 [some (vR p), some (vI o), some (vI (a + sN (fun i => if (((Ltd L).getD i []).length : Int) = o ∧ rising L ((Ltd L).getD i []) = false then 1 else 0) i)), some (vI ((i : Int) + 1)), none, none] [] N (fun r M' => ∃ x, r = vI x ∧ Q x M') := fun hn => by
        have := nx 0 (by rw [if_neg hn])
        rw [Int.add_zero] at this
        exact this
      refine t_54_61 h.o.1 ?_
      rw [hN.2.2.2.1.1, e2, hN.2.2.2.1.2.1 i (by omega), s85 ht.1 (by omega)]
      refine ⟨by omega, by omega, ?_⟩
      rw [if_neg (by omega), if_neg (by omega)]
      refine ⟨g51, by omega, by omega, ?_⟩
      by_cases e1 : (((Ltd L).getD i []).length : Int) = o
      · rw [if_pos e1, e2, hN.2.2.2.1.2.1 i (by omega), s49 hN ht.1 (by omega)]
        refine ⟨g51, by have := b2i_r (rising L ((Ltd L).getD i [])); omega, ?_⟩
        cases hr : rising L ((Ltd L).getD i [])
        · rw [if_pos (by decide)]
          exact nx 1 (by rw [if_pos ⟨e1, hr⟩])
        · rw [if_neg (by decide)]
          exact nx0 (fun z => by rw [hr] at z; exact absurd z.2 (by decide))
      · rw [if_neg e1]
        exact nx0 (fun z => e1 z.1)
  have go : ∀ (a : Int) (N : Mem), Fr M N → (∀ M' : Mem, Fr M M' → Q (a + nTld L o + nLrn L W o) M') → WR 54 61 [some (vR p), some (vI o), some (vI a), some (vI 0), none, none] [] N (fun r M' => ∃ x, r = vI x ∧ Q x M') := fun a N g hQ => by
    have := p61 (Ltd L).length 0 a N (by omega) g hQ
    rw [show sN (fun i => if (((Ltd L).getD i []).length : Int) = o ∧ rising L ((Ltd L).getD i []) = false then 1 else 0) 0 = 0 from rfl, Int.add_zero] at this
    exact this
  rw [h7, h0]
  refine ⟨by omega, ?_⟩
  by_cases qr : Lz L 0 = -1
  · rw [if_pos qr] at hQ ⊢
    exact go 0 M Fr.rf hQ
  · rw [if_neg qr] at hQ ⊢
    have ek : vI o = vI ((o.toNat : Nat) : Int) := by rw [show ((o.toNat : Nat) : Int) = o by omega]
    refine ⟨h.o.2.2, ?_⟩
    have := s100 (Q := fun y4 M3 => WR 54 61 [some (vR p), some (vI o), some (vI y4), some (vI 0), none, none] [] M3 (fun r M' => ∃ x, r = vI x ∧ Q x M')) h (size := o.toNat) (st := Lz L 0) (by omega) (by omega) (fun M' g => go _ M' g hQ)
    rw [← ek] at this
    exact this
/-- how many syllables of so many sounds can be -/
def pT (L : Lw) (W : List (List Int)) (n o h : Int) : Int := opC L W o * hrt L h * clC L (n - h - o)
def aPoss (L : Lw) (W : List (List Int)) (n : Int) : Int := if 1 ≤ n ∧ n ≤ 6 then smF (fun h => smF (fun o => pT L W n o h) 0 (n + 1 - h).toNat) 1 2 else -1
theorem cPoss {Q : Int → Mem → Prop} {n : Int} (h : ClsQ M p q L W S c) (hi : inR n) (hQ : ∀ M' : Mem, Fr M M' → Q (aPoss L W n) M') : WI 167 [vR 1, vI n] M Q := by
  unfold aPoss at hQ
  refine t_167 o1.1 ⟨hi, ?_⟩
  by_cases q : 1 ≤ n ∧ n ≤ 6
  rotate_left
  · rw [if_neg q] at hQ
    by_cases q2 : n < 1
    · rw [if_pos q2]; exact ⟨_, rfl, hQ M Fr.rf⟩
    · rw [if_neg q2, if_neg (by omega)]; exact ⟨_, rfl, hQ M Fr.rf⟩
  rw [if_pos q] at hQ
  rw [if_neg (by omega), if_pos q.2]
  have key : ∀ (m : Nat) (k a : Int) (l4 l5 : Option AV) (N : Mem), 1 ≤ k → k + m = 3 → Fr M N → (∀ M' : Mem, Fr M M' → Q (a + smF (fun h => smF (fun o => pT L W n o h) 0 (n + 1 - h).toNat) k m) M') → WR 167 17 [some (vR 1), some (vI n), some (vI a), some (vI k), l4, l5] [] N (fun r M' => ∃ x, r = vI x ∧ Q x M') := by
    intro m
    induction m with
    | zero =>
      intro k a l4 l5 N k1 km g hQ
      refine t_167_17 o1.1 ⟨by omega, ?_⟩
      rw [if_pos (by omega)]
      have := hQ N g
      rw [show smF (fun h => smF (fun o => pT L W n o h) 0 (n + 1 - h).toNat) k 0 = 0 from rfl, Int.add_zero] at this
      exact ⟨_, rfl, this⟩
    | succ m ih =>
      intro k a l4 l5 N k1 km g hQ
      rw [show smF (fun h => smF (fun o => pT L W n o h) 0 (n + 1 - h).toNat) k (m + 1) = smF (fun o => pT L W n o k) 0 (n + 1 - k).toNat + smF (fun h => smF (fun o => pT L W n o h) 0 (n + 1 - h).toNat) (k + 1) m from rfl, ← Int.add_assoc] at hQ
      refine t_167_17 o1.1 ⟨by omega, ?_⟩
      rw [if_neg (by omega)]
      have inner : ∀ (t : Nat) (o a : Int) (l5 : Option AV) (N : Mem), 0 ≤ o → t = (n + 1 - k - o).toNat → Fr M N → (∀ M' : Mem, Fr M M' → Q (a + smF (fun o => pT L W n o k) o t + smF (fun h => smF (fun o => pT L W n o h) 0 (n + 1 - h).toNat) (k + 1) m) M') → (0 ≤ n - k - o ∨ (o = 0 ∧ n - k - o = -1) ∨ n - k - o = -1) → WR 167 25 [some (vR 1), some (vI n), some (vI a), some (vI k), some (vI o), l5] [] N (fun r M' => ∃ x, r = vI x ∧ Q x M') := by
        intro t
        induction t with
        | zero =>
          intro o a l5 N o0 ot g hQ hc
          refine t_167_25 o1.1 ⟨by omega, hi, ?_⟩
          rw [if_pos (by omega)]
          refine ih (k + 1) a _ _ N (by omega) (by omega) g (fun M' g' => ?_)
          have := hQ M' g'
          rw [show smF (fun o => pT L W n o k) o 0 = 0 from rfl, Int.add_zero] at this
          exact this
        | succ t iht =>
          intro o a l5 N o0 ot g hQ hc
          have hN := h.fr g
          have p7 := hN.2.2.2.2.2.2.2.2.2.2.2.1
          refine t_167_25 o1.1 ⟨by omega, hi, ?_⟩
          rw [if_neg (by omega), p7]
          refine ⟨hN.1.1.o.1.2, s54 hN.1.1 hN.1.2.1 (by omega) (fun M1 g1 => ?_)⟩
          have h1 := hN.fr g1
          have p71 := h1.2.2.2.2.2.2.2.2.2.2.2.1
          rw [p71, s55 h1.1.1 (by omega), p71]
          refine ⟨hN.1.1.o.1.2, hN.1.1.o.1.2, s56 h1.1.1 (by omega) (fun M2 g2 => ?_)⟩
          rw [show smF (fun o => pT L W n o k) o (t + 1) = pT L W n o k + smF (fun o => pT L W n o k) (o + 1) t from rfl, ← Int.add_assoc] at hQ
          exact iht (o + 1) _ _ M2 (by omega) (by omega) ((g.tr g1).tr g2) hQ (by omega)
      refine inner (n + 1 - k).toNat 0 a l5 N (by omega) (by rw [Int.sub_zero]) g hQ (by omega)
  refine key 2 1 0 _ _ M (by omega) (by omega) Fr.rf (fun M' g => ?_)
  rw [Int.zero_add]
  exact hQ M' g
end PC
