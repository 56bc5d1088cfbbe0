/-! WHAT IS POSSIBLE, part three: the model. -/
def rlD (L : Lw) (st : Int) (i j : Nat) : Bool := decide (st ≤ opn L (j : Int) - opn L (i : Int))
theorem chn_dn (L : Lw) (st : Int) (size : Nat) : sN (chG (rlD L st) (okP L) (Ln L) (size - 1)) (Ln L) = chn L st size := (chG_rev (rlU L st) (okP L) (Ln L) (size - 1)).symm
section PM2
variable {M : Mem} {L : Lw} {W S : List (List Int)} {c : Int → Int}
theorem m278 {Q : Int → Mem → Prop} {size : Nat} {up : Int} (h : MLaw M L) (hs : size ≤ 6) (hup : up = 0 ∨ up = 1) (hQ : ∀ M' : Mem, FrM M M' → Q (if size = 0 then 1 else chn L (if up = 0 then Lz L 2 else Lz L 0) size) M') : WL 278 [vR 204, vI size, vI up] M Q := by
  have hn := h.2.2.2.2.1.1
  have hw := h.2.2.2.2
  have hz := hw.2.2
  unfold WfZ at hz
  have z43 : shA SH 243 = (23, 16) ∧ shA SH 244 = (23, 16) := by decide +kernel
  refine t_278 o204 ⟨by omega, ?_⟩
  by_cases q0 : size = 0
  · rw [if_pos (by omega)]
    have := hQ M FrM.rf
    rw [if_pos q0] at this
    exact ⟨_, rfl, this⟩
  rw [if_neg (by omega)]
  obtain ⟨rel, er⟩ : ∃ rel : Nat → Nat → Bool, rel = fun i j => if up = 0 then rlD L (Lz L 2) i j else rlU L (Lz L 0) i j := ⟨_, rfl⟩
  have hQ2 : ∀ M' : Mem, FrM M M' → Q (sN (chG rel (okP L) (Ln L) (size - 1)) (Ln L)) M' := fun M' g => by
    have := hQ M' g
    rw [if_neg q0] at this
    rcases hup with u | u
    · have e : rel = rlD L (Lz L 2) := by rw [er]; funext i j; exact if_pos u
      rw [e, chn_dn]
      rw [if_pos u] at this
      exact this
    · have e : rel = rlU L (Lz L 0) := by rw [er]; funext i j; exact if_neg (by omega)
      rw [e]
      rw [if_neg (by omega)] at this
      exact this
  clear hQ
  have fr : ∀ {N : Mem}, (∀ k : Int, k ≠ 243 → k ≠ 244 → N k = M k) → FrM M N := fun {N} g => ⟨fun k a b => g k (by omega) (by omega), fun j _ _ _ _ => by rw [g 204 (by decide) (by decide)]⟩
  have pt : ∀ {N : Mem}, (∀ k : Int, k ≠ 243 → k ≠ 244 → N k = M k) → N 204 77 = 243 ∧ N 204 78 = 244 ∧ N 204 38 = Ln L ∧ N 204 50 = 220 ∧ N 204 41 = Lz L 0 ∧ N 204 43 = Lz L 2 := fun {N} g => by
    have hN := h.fr (fr g)
    exact ⟨hN.1.at (by decide), hN.1.at (by decide), hN.2.1.1, hN.1.at (by decide), hN.2.2.2.1.1, hN.2.2.2.1.2.2.1⟩
  have g3 : ∀ {j : Int}, 0 ≤ j → j < 16 → gA 23 243 j := fun {j} a b => ⟨by rw [z43.1], a, by rw [z43.1]; exact b⟩
  have g4 : ∀ {j : Int}, 0 ≤ j → j < 16 → gA 23 244 j := fun {j} a b => ⟨by rw [z43.2], a, by rw [z43.2]; exact b⟩
  have on : ∀ {N : Mem}, (∀ k : Int, k ≠ 243 → k ≠ 244 → N k = M k) → ∀ i : Nat, i < Ln L → gA 20 220 (i : Int) ∧ N 220 (i : Int) = opn L (i : Int) ∧ 0 ≤ opn L (i : Int) ∧ opn L (i : Int) ≤ 9 := fun {N} g i hi => by
    have hN := h.fr (fr g)
    have := hw.1.2.1 (i : Int) (by omega) (by omega)
    rw [opn_on (by omega) (by omega)]
    exact ⟨g220 hN (by omega) (by omega), (hN.2.1.2.1 (i : Int) (by omega) (by omega)).2.1, this.2.2.1, this.2.2.2⟩
  have okb : ∀ i : Nat, okP L i = true ↔ b2i (pkn L (i : Int)) = 0 := fun i => by
    unfold okP
    cases pkn L (i : Int) <;> decide
  have fin : ∀ (n i : Nat) (N : Mem) (a : Int), i + n = Ln L → (∀ k : Int, k ≠ 243 → k ≠ 244 → N k = M k) → (∀ j : Nat, j < Ln L → N 243 j = chG rel (okP L) (Ln L) (size - 1) j) → a = sN (chG rel (okP L) (Ln L) (size - 1)) i → WR 278 216 [some (vR 204), some (vI size), some (vI up), some (vL a), none, some (vI i)] [] N (fun r M' => ∃ x, r = vL x ∧ Q x M') := by
    intro n
    induction n with
    | zero =>
      intro i N a hi g hk ha
      refine t_278_216 o204 ?_
      rw [(pt g).2.2.1]
      refine ⟨by omega, by omega, ?_⟩
      rw [if_pos (by omega)]
      refine ⟨_, rfl, ?_⟩
      rw [ha, show i = Ln L by omega]
      exact hQ2 N (fr g)
    | succ n ih =>
      intro i N a hi g hk ha
      refine t_278_216 o204 ?_
      rw [(pt g).2.2.1, (pt g).1, hk i (by omega)]
      refine ⟨by omega, by omega, ?_⟩
      rw [if_neg (by omega)]
      exact ⟨g3 (by omega) (by omega), ih (i + 1) N _ (by omega) g hk (by rw [ha]; rfl)⟩
  have lnk : ∀ (n k : Nat) (l4 l5 : Option AV) (N : Mem), k + n = size - 1 → (∀ t : Int, t ≠ 243 → t ≠ 244 → N t = M t) → (∀ j : Nat, j < Ln L → N 243 j = chG rel (okP L) (Ln L) k j) → WR 278 47 [some (vR 204), some (vI size), some (vI up), some (vI ((k : Int) + 1)), l4, l5] [] N (fun r M' => ∃ x, r = vL x ∧ Q x M') := by
    intro n
    induction n with
    | zero =>
      intro k l4 l5 N hk g hc
      refine t_278_47 o204 ⟨by omega, by omega, ?_⟩
      rw [if_pos (by omega)]
      rw [show k = size - 1 by omega] at hc
      exact fin (Ln L) 0 N 0 (by omega) g hc rfl
    | succ n ih =>
      intro k l4 l5 N hk g hc
      refine t_278_47 o204 ⟨by omega, by omega, ?_⟩
      rw [if_neg (by omega)]
      have cpy : ∀ (m i : Nat) (l5 : Option AV) (N : Mem), i + m = Ln L → (∀ t : Int, t ≠ 243 → t ≠ 244 → N t = M t) → (∀ j : Nat, j < Ln L → N 244 j = chG rel (okP L) (Ln L) (k + 1) j) → (∀ j : Nat, j < i → N 243 j = chG rel (okP L) (Ln L) (k + 1) j) → WR 278 176 [some (vR 204), some (vI size), some (vI up), some (vI ((k : Int) + 1)), some (vI i), l5] [] N (fun r M' => ∃ x, r = vL x ∧ Q x M') := by
        intro m
        induction m with
        | zero =>
          intro i l5 N hi g hd hc
          refine t_278_176 o204 ?_
          rw [(pt g).2.2.1]
          refine ⟨by omega, by omega, ?_⟩
          rw [if_pos (by omega), show (k : Int) + 1 + 1 = ((k + 1 : Nat) : Int) + 1 by omega]
          exact ih (k + 1) _ _ N (by omega) g (fun j hj => hc j (by omega))
        | succ m ihm =>
          intro i l5 N hi g hd hc
          refine t_278_176 o204 ?_
          rw [(pt g).2.2.1, (pt g).1, (pt g).2.1, hd i (by omega)]
          refine ⟨by omega, by omega, ?_⟩
          rw [if_neg (by omega)]
          refine ⟨g4 (by omega) (by omega), g3 (by omega) (by omega), ihm (i + 1) _ _ (by omega) (fun t a b => by rw [upM_o a]; exact g t a b) (fun j hj => by rw [upM_o (by decide)]; exact hd j hj) (fun j hj => ?_)⟩
          by_cases e : j = i
          · rw [e, upM_s]
          · rw [upM_f (by omega)]
            exact hc j (by omega)
      have row : ∀ (m i : Nat) (l5 : Option AV) (N : Mem), i + m = Ln L → (∀ t : Int, t ≠ 243 → t ≠ 244 → N t = M t) → (∀ j : Nat, j < Ln L → N 243 j = chG rel (okP L) (Ln L) k j) → (∀ j : Nat, j < i → N 244 j = chG rel (okP L) (Ln L) (k + 1) j) → WR 278 55 [some (vR 204), some (vI size), some (vI up), some (vI ((k : Int) + 1)), some (vI i), l5] [] N (fun r M' => ∃ x, r = vL x ∧ Q x M') := by
        intro m
        induction m with
        | zero =>
          intro i l5 N hi g hc hd
          refine t_278_55 o204 ?_
          rw [(pt g).2.2.1]
          refine ⟨by omega, by omega, ?_⟩
          rw [if_pos (by omega)]
          exact cpy (Ln L) 0 _ N (by omega) g (fun j hj => hd j (by omega)) (fun j hj => by omega)
        | succ m ihm =>
          intro i l5 N hi g hc hd
          refine t_278_55 o204 ?_
          rw [(pt g).2.2.1, (pt g).2.1]
          refine ⟨by omega, by omega, ?_⟩
          rw [if_neg (by omega)]
          refine ⟨g4 (by omega) (by omega), ?_⟩
          have done : ∀ (l5 : Option AV) (N' : Mem), (∀ t : Int, t ≠ 243 → t ≠ 244 → N' t = M t) → (∀ j : Nat, j < Ln L → N' 243 j = chG rel (okP L) (Ln L) k j) → (∀ j : Nat, j < i → N' 244 j = chG rel (okP L) (Ln L) (k + 1) j) → N' 244 i = chG rel (okP L) (Ln L) (k + 1) i → WR 278 55 [some (vR 204), some (vI size), some (vI up), some (vI ((k : Int) + 1)), some (vI ((i : Int) + 1)), l5] [] N' (fun r M' => ∃ x, r = vL x ∧ Q x M') := fun l5 N' g' hc' hd' hi' => ihm (i + 1) l5 N' (by omega) g' hc' (fun j hj => by
            by_cases e : j = i
            · rw [e]; exact hi'
            · exact hd' j (by omega))
          have col : ∀ (t j : Nat) (N' : Mem), j + t = Ln L → (∀ t : Int, t ≠ 243 → t ≠ 244 → N' t = M t) → (∀ j : Nat, j < Ln L → N' 243 j = chG rel (okP L) (Ln L) k j) → (∀ j : Nat, j < i → N' 244 j = chG rel (okP L) (Ln L) (k + 1) j) → (N' 244 i = if okP L i = true then sN (fun j => if rel i j = true then chG rel (okP L) (Ln L) k j else 0) j else 0) → WR 278 75 [some (vR 204), some (vI size), some (vI up), some (vI ((k : Int) + 1)), some (vI i), some (vI j)] [] N' (fun r M' => ∃ x, r = vL x ∧ Q x M') := by
            intro t
            induction t with
            | zero =>
              intro j N' hj g' hc' hd' hv
              refine t_278_75 o204 ?_
              rw [(pt g').2.2.1]
              refine ⟨by omega, by omega, ?_⟩
              rw [if_pos (by omega)]
              refine done _ N' g' hc' hd' ?_
              rw [hv, chG_s, show j = Ln L by omega]
            | succ t iht =>
              intro j N' hj g' hc' hd' hv
              obtain ⟨a1, a2, a3, a4⟩ := on g' i (by omega)
              obtain ⟨b1, b2, b3, b4⟩ := on g' j (by omega)
              refine t_278_75 o204 ?_
              rw [(pt g').2.2.1, m225 (h.fr (fr g')) (by omega) (by omega)]
              refine ⟨by omega, by omega, ?_⟩
              rw [if_neg (by omega)]
              refine ⟨by have := b2i_r (pkn L (i : Int)); omega, ?_⟩
              by_cases q : b2i (pkn L (i : Int)) = 0
              · have ok := (okb i).mpr q
                rw [if_pos ok] at hv
                have e : sN (fun j => if rel i j = true then chG rel (okP L) (Ln L) k j else 0) (j + 1) = sN (fun j => if rel i j = true then chG rel (okP L) (Ln L) k j else 0) j + (if rel i j = true then chG rel (okP L) (Ln L) k j else 0) := rfl
                have skip : ¬ rel i j = true → WR 278 75 [some (vR 204), some (vI size), some (vI up), some (vI ((k : Int) + 1)), some (vI i), some (vI ((j : Int) + 1))] [] N' (fun r M' => ∃ x, r = vL x ∧ Q x M') := fun hr => iht (j + 1) N' (by omega) g' hc' hd' (by rw [if_pos ok, e, if_neg hr, Int.add_zero]; exact hv)
                have take : rel i j = true → WR 278 75 [some (vR 204), some (vI size), some (vI up), some (vI ((k : Int) + 1)), some (vI i), some (vI ((j : Int) + 1))] [] (upM N' 244 i (N' 244 i + N' 243 j)) (fun r M' => ∃ x, r = vL x ∧ Q x M') := fun hr => iht (j + 1) _ (by omega) (fun t a b => by rw [upM_o b]; exact g' t a b) (fun t ht => by rw [upM_o (by decide)]; exact hc' t ht) (fun t ht => by rw [upM_f (by omega)]; exact hd' t ht) (by rw [upM_s, if_pos ok, e, if_pos hr, hv, hc' j (by omega)])
                rw [if_pos q]
                refine ⟨by omega, ?_⟩
                rcases hup with u | u
                · have rr : rel i j = decide (Lz L 2 ≤ opn L (j : Int) - opn L (i : Int)) := by rw [er]; exact if_pos u
                  rw [if_pos u, (pt g').2.2.2.1, (pt g').2.2.2.2.2, a2, b2]
                  refine ⟨b1, a1, by omega, by omega, ?_⟩
                  by_cases q2 : opn L (j : Int) - opn L (i : Int) < Lz L 2
                  · rw [if_pos q2]
                    exact skip (by rw [rr, decide_eq_false (by omega)]; decide)
                  · rw [if_neg q2, (pt g').2.1, (pt g').1]
                    exact ⟨g4 (by omega) (by omega), g3 (by omega) (by omega), g4 (by omega) (by omega), take (by rw [rr]; exact decide_eq_true (by omega))⟩
                · have rr : rel i j = decide (Lz L 0 ≤ opn L (i : Int) - opn L (j : Int)) := by rw [er]; exact if_neg (by omega)
                  rw [if_neg (by omega), (pt g').2.2.2.1, (pt g').2.2.2.2.1, a2, b2]
                  refine ⟨a1, b1, by omega, by omega, ?_⟩
                  by_cases q2 : opn L (i : Int) - opn L (j : Int) < Lz L 0
                  · rw [if_pos q2]
                    exact skip (by rw [rr, decide_eq_false (by omega)]; decide)
                  · rw [if_neg q2, (pt g').2.1, (pt g').1]
                    exact ⟨g4 (by omega) (by omega), g3 (by omega) (by omega), g4 (by omega) (by omega), take (by rw [rr]; exact decide_eq_true (by omega))⟩
              · rw [if_neg q]
                have nok : ¬ okP L i = true := fun z => q ((okb i).mp z)
                rw [if_neg nok] at hv
                exact done _ N' g' hc' hd' (by rw [hv, chG_ok _ _ _ _ _ nok])
          exact col (Ln L) 0 _ (by omega) (fun t a b => by rw [upM_o b]; exact g t a b) (fun j hj => by rw [upM_o (by decide)]; exact hc j hj) (fun j hj => by rw [upM_f (by omega)]; exact hd j hj) (by rw [upM_s]; split <;> rfl)
      exact row (Ln L) 0 _ N (by omega) g hc (fun j hj => by omega)
  have st0 : ∀ (n i : Nat) (N : Mem), i + n = Ln L → (∀ t : Int, t ≠ 243 → t ≠ 244 → N t = M t) → (∀ j : Nat, j < i → N 243 j = chG rel (okP L) (Ln L) 0 j) → WR 278 8 [some (vR 204), some (vI size), some (vI up), some (vI i), none, none] [] N (fun r M' => ∃ x, r = vL x ∧ Q x M') := by
    intro n
    induction n with
    | zero =>
      intro i N hi g hd
      refine t_278_8 o204 ?_
      rw [(pt g).2.2.1]
      refine ⟨by omega, by omega, ?_⟩
      rw [if_pos (by omega)]
      exact lnk (size - 1) 0 none none N (by omega) g (fun j hj => hd j (by omega))
    | succ n ih =>
      intro i N hi g hd
      have go : ∀ v : Int, v = (if okP L i = true then 1 else 0) → WR 278 8 [some (vR 204), some (vI size), some (vI up), some (vI ((i : Int) + 1)), none, none] [] (upM N 243 i v) (fun r M' => ∃ x, r = vL x ∧ Q x M') := fun v hv => ih (i + 1) _ (by omega) (fun t a b => by rw [upM_o a]; exact g t a b) (fun j hj => by
        by_cases e : j = i
        · rw [e, upM_s, hv]; rfl
        · rw [upM_f (by omega)]
          exact hd j (by omega))
      refine t_278_8 o204 ?_
      rw [(pt g).2.2.1, (pt g).1, m225 (h.fr (fr g)) (by omega) (by omega)]
      refine ⟨by omega, by omega, ?_⟩
      rw [if_neg (by omega)]
      refine ⟨by have := b2i_r (pkn L (i : Int)); omega, ?_⟩
      by_cases q : b2i (pkn L (i : Int)) = 0
      · rw [if_pos q, m178 (by decide), if_neg (by decide)]
        exact ⟨g3 (by omega) (by omega), go _ (by rw [if_pos ((okb i).mpr q)]; rfl)⟩
      · rw [if_neg q, m178 (by decide), if_pos rfl]
        exact ⟨g3 (by omega) (by omega), go _ (by rw [if_neg (fun z => q ((okb i).mp z))]; rfl)⟩
  exact st0 (Ln L) 0 M (by omega) (fun _ _ _ => rfl) (fun j hj => by omega)
theorem m279 {Q : Int → Mem → Prop} {i : Nat} (h : MLaw M L) (hW : MLrn M L W) (hi : i < W.length) : WI 279 [vR 204, vI i] M Q = Q (b2i (newL L W i)) M := by
  have h20 := hW.2.1
  have ok := fun t ht => (hW.2.2 t ht).2.2
  have hl12 := (ok i hi).2.1
  have hd := onl_dg h.2.2.2.2 (ok i hi).2.2
  have hlead := lead_dg (L := L) hd
  refine FN.wi (WC.fn (t_279 o204 ?_))
  rw [m233 h hW hi, hdI_eq]
  unfold newL
  cases hp : hasPk L (W.getD i [])
  · rw [if_neg (by decide), wr_id (by decide), m177 (by decide) (by decide) (by decide)]
    exact ⟨by decide, by rw [if_pos (by decide)]; exact ⟨rfl, rfl⟩⟩
  rw [if_pos rfl, wr_id (show inR ((leadL L (W.getD i [])).length : Int) by omega), m177 (by omega) (by decide) (by decide), Bool.true_and]
  refine ⟨by have := b2i_r (decide (2 ≤ ((leadL L (W.getD i [])).length : Int) ∧ ((leadL L (W.getD i [])).length : Int) ≤ 4)); omega, ?_⟩
  by_cases q1 : 2 ≤ (leadL L (W.getD i [])).length ∧ (leadL L (W.getD i [])).length ≤ 4
  rotate_left
  · rw [decide_eq_false (show ¬ (2 ≤ ((leadL L (W.getD i [])).length : Int) ∧ ((leadL L (W.getD i [])).length : Int) ≤ 4) by omega), if_pos (by decide), decide_eq_false q1, Bool.false_and]
    exact ⟨rfl, rfl⟩
  rw [decide_eq_true (show 2 ≤ ((leadL L (W.getD i [])).length : Int) ∧ ((leadL L (W.getD i [])).length : Int) ≤ 4 by omega), if_neg (by decide), decide_eq_true q1, Bool.true_and]
  have e61 := h.1.at (show ((61 : Int), (230 : Int)) ∈ mpT by decide)
  have sI := (hW.2.2 i hi).2.1
  have pre := lead_pre L (W.getD i [])
  have key : ∀ (n j : Nat) (l4 l5 : Option AV) (P : AV → Mem → Prop), j + n = i → P (vI (b2i (!anyB (fun j => hasPk L (W.getD j.toNat []) && decide (leadL L (W.getD j.toNat []) = leadL L (W.getD i []))) j n))) M → WR 279 24 [some (vR 204), some (vI i), some (vI (leadL L (W.getD i [])).length), some (vI j), l4, l5] [] M P := by
    intro n
    induction n with
    | zero =>
      intro j l4 l5 P hj hP
      refine t_279_24 o204 ⟨by omega, by omega, ?_⟩
      rw [if_pos (by omega)]
      exact hP
    | succ n ih =>
      intro j l4 l5 P hj hP
      have okj := ok j (by omega)
      have hj12 := okj.2.1
      have sJ := (hW.2.2 j (by omega)).2.1
      have li := lead_iff (L := L) (v := W.getD j []) (l := leadL L (W.getD i []))
      unfold anyB at hP
      rw [Int.toNat_natCast] at hP
      have hdI' := hdI_eq L (W.getD j [])
      have hlj := lead_dg (L := L) (onl_dg h.2.2.2.2 okj.2.2)
      have hr : inR (hdI L (W.getD j [])) := by rw [hdI']; split <;> omega
      have yes : (hasPk L (W.getD j []) && decide (leadL L (W.getD j []) = leadL L (W.getD i []))) = true → P (vI 0) M := fun e => by
        rw [e, Bool.true_or] at hP
        exact hP
      have no : ∀ l4 l5 : Option AV, ¬ (hasPk L (W.getD j []) && decide (leadL L (W.getD j []) = leadL L (W.getD i []))) = true → WR 279 24 [some (vR 204), some (vI i), some (vI (leadL L (W.getD i [])).length), some (vI ((j : Int) + 1)), l4, l5] [] M P := fun l4 l5 e => by
        have ef : (hasPk L (W.getD j []) && decide (leadL L (W.getD j []) = leadL L (W.getD i []))) = false := by
          rw [Bool.eq_false_iff]; exact e
        rw [ef, Bool.false_or] at hP
        exact ih (j + 1) l4 l5 P (by omega) hP
      have cmp : ∀ (m t : Nat) (b : Bool), t + m = (leadL L (W.getD i [])).length → (b = true ↔ (hdI L (W.getD j []) = (leadL L (W.getD i [])).length ∧ ∀ x : Int, 0 ≤ x → x < t → gi (W.getD j []) x = gi (leadL L (W.getD i [])) x)) → WR 279 48 [some (vR 204), some (vI i), some (vI (leadL L (W.getD i [])).length), some (vI j), some (vI (b2i b)), some (vI t)] [] M P := by
        intro m
        induction m with
        | zero =>
          intro t b ht hb
          refine t_279_48 o204 ⟨by omega, by omega, ?_⟩
          rw [if_pos (by omega)]
          refine ⟨by have := b2i_r b; omega, ?_⟩
          rw [show (t : Int) = (leadL L (W.getD i [])).length by omega] at hb
          rw [li] at hb
          cases b
          · rw [if_pos (by decide)]
            exact no _ _ (fun z => absurd (hb.mpr z) (by decide))
          · rw [if_neg (by decide)]
            exact yes (hb.mp rfl)
        | succ m ihm =>
          intro t b ht hb
          refine t_279_48 o204 ⟨by omega, by omega, ?_⟩
          rw [if_neg (by omega)]
          refine ⟨by have := b2i_r b; omega, ?_⟩
          cases b
          · rw [if_pos (by decide), if_pos (by decide)]
            refine no _ _ (fun z => absurd (hb.mpr ?_) (by decide))
            have := li.mpr z
            exact ⟨this.1, fun x a q => this.2 x a (by omega)⟩
          · rw [if_neg (by decide), e61]
            have hb' := hb.mp rfl
            have hlen : (leadL L (W.getD i [])).length ≤ (W.getD j []).length := by
              have h1 := hb'.1
              rw [hdI'] at h1
              split at h1
              · have := hlj.2
                omega
              · omega
            have vj : M 230 (21 + 12 * (j : Int) + t) = gi (W.getD j []) t := sJ t (by omega) (by omega)
            have vi : M 230 (21 + 12 * (i : Int) + t) = gi (W.getD i []) t := sI t (by omega) (by have := hlead.2; omega)
            have qj := onl_r (i := (t : Int)) h.2.2.2.2 okj.2.2 (by omega) (by omega)
            have qi := onl_r (i := (t : Int)) h.2.2.2.2 (ok i hi).2.2 (by omega) (by have := hlead.2; omega)
            rw [vj, vi, ← pre.2 t (by omega) (by omega)]
            rw [← pre.2 t (by omega) (by omega)] at qi
            refine ⟨gC z230 (by omega) (by show _ < ((267 : Nat) : Int); omega), gC z230 (by omega) (by show _ < ((267 : Nat) : Int); omega), by omega, by omega, ?_⟩
            by_cases e : gi (W.getD j []) t = gi (leadL L (W.getD i [])) t
            · rw [if_pos e]
              exact ihm (t + 1) true (by omega) ⟨fun _ => ⟨hb'.1, fun x a q => by
                by_cases ex : x = t
                · rw [ex]; exact e
                · exact hb'.2 x a (by omega)⟩, fun _ => rfl⟩
            · rw [if_neg e]
              exact ihm (t + 1) false (by omega) ⟨fun z => absurd z (by decide), fun z => absurd (z.2 t (by omega) (by omega)) e⟩
      refine t_279_24 o204 ⟨by omega, by omega, ?_⟩
      rw [if_neg (by omega), m233 h hW (by omega)]
      refine ⟨hr, by omega, ?_⟩
      by_cases e : hdI L (W.getD j []) = (leadL L (W.getD i [])).length
      · rw [if_pos e]
        exact cmp (leadL L (W.getD i [])).length 0 true (by omega) ⟨fun _ => ⟨e, fun x a q => by omega⟩, fun _ => rfl⟩
      · rw [if_neg e]
        exact cmp (leadL L (W.getD i [])).length 0 false (by omega) ⟨fun z => absurd z (by decide), fun z => absurd z.1 e⟩
  exact key i 0 _ _ _ (by omega) ⟨rfl, rfl⟩
theorem m280 {Q : Int → Mem → Prop} {o : Int} (h : MdlQ M L W S c) (ho : 0 ≤ o ∧ o ≤ 4) (hQ : ∀ M' : Mem, FrM M M' → Q (opC L W o) M') : WL 280 [vR 204, vI o] M Q := by
  have hz := h.1.2.2.2.2.2.2
  unfold WfZ at hz
  have hz0 := hz.1
  have h20 := h.2.1.2.1
  have eo : vI o = vI ((o.toNat : Nat) : Int) := by rw [show ((o.toNat : Nat) : Int) = o by omega]
  unfold opC at hQ
  refine t_280 o204 ⟨by omega, ?_⟩
  by_cases q2 : 2 ≤ o
  rotate_left
  · rw [if_neg q2, eo]
    refine m278 h.1 (by omega) (Or.inr rfl) (fun M' g => ⟨_, rfl, ?_⟩)
    have := hQ M' g
    by_cases q0 : o = 0
    · rw [if_pos q0] at this
      rw [if_pos (by omega)]
      exact this
    · rw [if_neg q0, if_pos (by omega)] at this
      rw [if_neg (by omega), show o.toNat = 1 by omega]
      exact this
  rw [if_pos q2]
  rw [if_neg (by omega), if_neg (by omega), if_pos ho.2] at hQ
  have p83 : ∀ (n i : Nat) (a : Int) (N : Mem), i + n = W.length → FrM M N → (∀ M' : Mem, FrM M M' → Q (a + nLrn L W o) M') → WR 280 83 [some (vR 204), some (vI o), some (vL (a + sN (fun i => if newL L W i = true ∧ ((leadL L (W.getD i [])).length : Int) = o ∧ (¬ leadL L (W.getD i []) ∈ Ltd L) ∧ rising L (leadL L (W.getD i [])) = false then 1 else 0) i)), none, some (vI i)] [] N (fun r M' => ∃ x, r = vL x ∧ Q x M') := by
    intro n
    induction n with
    | zero =>
      intro i a N hi g hQ
      have hN := h.fr g
      refine t_280_83 o204 ?_
      rw [hN.1.1.at (show ((61 : Int), (230 : Int)) ∈ mpT by decide), hN.2.1.1]
      refine ⟨gC z230 (by decide) (by decide), by omega, by omega, ?_⟩
      rw [if_pos (by omega)]
      refine ⟨_, rfl, ?_⟩
      have := hQ N g
      unfold nLrn at this
      rw [show i = W.length by omega]
      exact this
    | succ n ih =>
      intro i a N hi g hQ
      have hN := h.fr g
      have e61 := hN.1.1.at (show ((61 : Int), (230 : Int)) ∈ mpT by decide)
      have nx : ∀ (v : Int), v = (if newL L W i = true ∧ ((leadL L (W.getD i [])).length : Int) = o ∧ (¬ leadL L (W.getD i []) ∈ Ltd L) ∧ rising L (leadL L (W.getD i [])) = false then 1 else 0) → WR 280 83 [some (vR 204), some (vI o), some (vL (a + sN (fun i => if newL L W i = true ∧ ((leadL L (W.getD i [])).length : Int) = o ∧ (¬ leadL L (W.getD i []) ∈ Ltd L) ∧ rising L (leadL L (W.getD i [])) = false then 1 else 0) i + v)), none, some (vI ((i : Int) + 1))] [] N (fun r M' => ∃ x, r = vL x ∧ Q x M') := fun v hv => by
        have := ih (i + 1) a N (by omega) g hQ
        have e : sN (fun i => if newL L W i = true ∧ ((leadL L (W.getD i [])).length : Int) = o ∧ (¬ leadL L (W.getD i []) ∈ Ltd L) ∧ rising L (leadL L (W.getD i [])) = false then 1 else 0) (i + 1) = sN (fun i => if newL L W i = true ∧ ((leadL L (W.getD i [])).length : Int) = o ∧ (¬ leadL L (W.getD i []) ∈ Ltd L) ∧ rising L (leadL L (W.getD i [])) = false then 1 else 0) i + (if newL L W i = true ∧ ((leadL L (W.getD i [])).length : Int) = o ∧ (¬ leadL L (W.getD i []) ∈ Ltd L) ∧ rising L (leadL L (W.getD i [])) = false then 1 else 0) := rfl
        rw [e, ← hv, ← Int.add_assoc] at this
        exact this
      have nx0 : ¬ (newL L W i = true ∧ ((leadL L (W.getD i [])).length : Int) = o ∧ (¬ leadL L (W.getD i []) ∈ Ltd L) ∧ rising L (leadL L (W.getD i [])) = false) → WR 280 83 [some (vR 204), some (vI o), some (vL (a + sN (fun i => if newL L W i = true ∧ ((leadL L (W.getD i [])).length : Int) = o ∧ (¬ leadL L (W.getD i []) ∈ Ltd L) ∧ rising L (leadL L (W.getD i [])) = false then 1 else 0) i)), none, some (vI ((i : Int) + 1))] [] N (fun r M' => ∃ x, r = vL x ∧ Q x M') := fun hn => by
        have := nx 0 (by rw [if_neg hn])
        rw [Int.add_zero] at this
        exact this
      obtain ⟨-, sI, okI⟩ := hN.2.1.2.2 i (by omega)
      have hi12 := okI.2.1
      have hlead := lead_dg (L := L) (onl_dg h.1.2.2.2.2 okI.2.2)
      have pre := lead_pre L (W.getD i [])
      have onlead : onl L (leadL L (W.getD i [])) := fun s hs => okI.2.2 s ((List.takeWhile_sublist _).subset hs)
      refine t_280_83 o204 ?_
      rw [e61, hN.2.1.1, m279 hN.1 hN.2.1 (by omega), m233 hN.1 hN.2.1 (by omega)]
      refine ⟨gC z230 (by decide) (by decide), by omega, by omega, ?_⟩
      rw [if_neg (by omega)]
      refine ⟨by have := b2i_r (newL L W i); omega, ?_⟩
      cases hv : newL L W i
      · rw [if_pos (by decide)]
        exact nx0 (fun z => by rw [hv] at z; exact absurd z.1 (by decide))
      rw [if_neg (by decide)]
      have hpk : hasPk L (W.getD i []) = true := by
        unfold newL at hv
        rw [Bool.and_eq_true, Bool.and_eq_true] at hv
        exact hv.1.1
      rw [hdI_eq, if_pos hpk]
      refine ⟨by omega, by omega, ?_⟩
      by_cases e1 : ((leadL L (W.getD i [])).length : Int) = o
      · rw [if_pos e1, e61]
        have ar : ArrOk 230 (21 + 12 * (i : Int)) (leadL L (W.getD i [])).length := ⟨by rw [z230], by omega, by rw [z230]; show _ ≤ ((267 : Nat) : Int); omega⟩
        have sg : SegIs N 230 (21 + 12 * (i : Int)) (leadL L (W.getD i [])) := fun x a q => by
          rw [pre.2 x a q]
          exact sI x a (by omega)
        have c1 : ∀ P : Int → Mem → Prop, WI 232 [vR 204, vR 230, vI (21 + 12 * (i : Int)), vI o] N P = P (b2i (decide (leadL L (W.getD i []) ∈ Ltd L))) N := fun P => by
          rw [← e1]
          exact m232 hN.1 ar sg onlead (by omega) (by omega)
        have c2 : ∀ P : Int → Mem → Prop, WI 231 [vR 204, vR 230, vI (21 + 12 * (i : Int)), vI o] N P = P (b2i (rising L (leadL L (W.getD i [])))) N := fun P => by
          rw [← e1]
          exact m231 hN.1 ar sg onlead (by omega) (by omega)
        rw [c1]
        refine ⟨by have := b2i_r (decide (leadL L (W.getD i []) ∈ Ltd L)); omega, ?_⟩
        by_cases e2 : leadL L (W.getD i []) ∈ Ltd L
        · rw [decide_eq_true e2, if_neg (by decide)]
          exact nx0 (fun z => z.2.2.1 e2)
        · rw [decide_eq_false e2, if_pos (by decide), e61, c2]
          refine ⟨by have := b2i_r (rising L (leadL L (W.getD i []))); omega, ?_⟩
          cases hr : rising L (leadL L (W.getD i []))
          · rw [if_pos (by decide)]
            exact nx 1 (by rw [if_pos ⟨hv, e1, e2, hr⟩])
          · rw [if_neg (by decide)]
            exact nx0 (fun z => by rw [hr] at z; exact absurd z.2.2.2 (by decide))
      · rw [if_neg e1]
        exact nx0 (fun z => e1 z.2.1)
  have p34 : ∀ (n i : Nat) (a : Int) (N : Mem), i + n = (Ltd L).length → FrM M N → (∀ M' : Mem, FrM M M' → Q (a + nTld L o + nLrn L W o) M') → WR 280 34 [some (vR 204), some (vI o), some (vL (a + sN (fun i => if (((Ltd L).getD i []).length : Int) = o ∧ rising L ((Ltd L).getD i []) = false then 1 else 0) i)), none, some (vI i)] [] N (fun r M' => ∃ x, r = vL x ∧ Q x M') := by
    intro n
    induction n with
    | zero =>
      intro i a N hi g hQ
      have hN := h.fr g
      have h12 := hN.1.2.2.2.2.2.1.1
      refine t_280_34 o204 ?_
      rw [hN.1.2.2.1.1]
      refine ⟨by omega, by omega, ?_⟩
      rw [if_pos (by omega)]
      have := p83 W.length 0 (a + nTld L o) N (by omega) g hQ
      rw [show sN (fun i => if newL L W i = true ∧ ((leadL L (W.getD i [])).length : Int) = o ∧ (¬ leadL L (W.getD i []) ∈ Ltd L) ∧ rising L (leadL L (W.getD i [])) = false then 1 else 0) 0 = 0 from rfl, Int.add_zero] at this
      unfold nTld at this
      rw [show i = (Ltd L).length by omega]
      exact this
    | succ n ih =>
      intro i a N hi g hQ
      have hN := h.fr g
      have h12 := hN.1.2.2.2.2.2.1.1
      have ht := hN.1.2.2.2.2.tdg (gtd (i := i) (xs := Ltd L) (by omega))
      have htm := hN.1.2.2.2.2.2.1.2.1 _ (gtd (i := i) (xs := Ltd L) (by omega))
      obtain ⟨t1, t2⟩ := hN.1.2.2.1.2.1 i (by omega)
      have z23 : shA SH 223 = (20, 12) ∧ shA SH 222 = (20, 48) := by decide +kernel
      have nx : ∀ v : Int, v = (if (((Ltd L).getD i []).length : Int) = o ∧ rising L ((Ltd L).getD i []) = false then 1 else 0) → WR 280 34 [some (vR 204), some (vI o), some (vL (a + sN (fun i => if (((Ltd L).getD i []).length : Int) = o ∧ rising L ((Ltd L).getD i []) = false then 1 else 0) i + v)), none, some (vI ((i : Int) + 1))] [] N (fun r M' => ∃ x, r = vL x ∧ Q x M') := fun v hv => by
        have := ih (i + 1) a N (by omega) g hQ
        have e : sN (fun i => if (((Ltd L).getD i []).length : Int) = o ∧ rising L ((Ltd L).getD i []) = false then 1 else 0) (i + 1) = sN (fun i => if (((Ltd L).getD i []).length : Int) = o ∧ rising L ((Ltd L).getD i []) = false then 1 else 0) i + (if (((Ltd L).getD i []).length : Int) = o ∧ rising L ((Ltd L).getD i []) = false then 1 else 0) := rfl
        rw [e, ← hv, ← Int.add_assoc] at this
        exact this
      have nx0 : ¬ ((((Ltd L).getD i []).length : Int) = o ∧ rising L ((Ltd L).getD i []) = false) → WR 280 34 [some (vR 204), some (vI o), some (vL (a + sN (fun i => if (((Ltd L).getD i []).length : Int) = o ∧ rising L ((Ltd L).getD i []) = false then 1 else 0) i)), none, some (vI ((i : Int) + 1))] [] N (fun r M' => ∃ x, r = vL x ∧ Q x M') := fun hn => by
        have := nx 0 (by rw [if_neg hn])
        rw [Int.add_zero] at this
        exact this
      refine t_280_34 o204 ?_
      rw [hN.1.2.2.1.1, hN.1.1.at (show ((53 : Int), (223 : Int)) ∈ mpT by decide), hN.1.1.at (show ((52 : Int), (222 : Int)) ∈ mpT by decide), t1]
      refine ⟨by omega, by omega, ?_⟩
      rw [if_neg (by omega)]
      refine ⟨gC z23.1 (by omega) (by show _ < ((12 : Nat) : Int); omega), by omega, by omega, ?_⟩
      by_cases e1 : (((Ltd L).getD i []).length : Int) = o
      · have c2 : ∀ P : Int → Mem → Prop, WI 231 [vR 204, vR 222, vI (4 * (i : Int)), vI o] N P = P (b2i (rising L ((Ltd L).getD i []))) N := fun P => by
          rw [← e1]
          exact m231 hN.1 ⟨by rw [z23.2], by omega, by rw [z23.2]; show _ ≤ ((48 : Nat) : Int); omega⟩ t2 (fun s hs => ⟨(htm.2.2 s hs).1, (htm.2.2 s hs).2.1⟩) (by omega) (by omega)
        rw [if_pos e1, c2]
        refine ⟨by have := b2i_r (rising L ((Ltd L).getD i [])); omega, ?_⟩
        cases hr : rising L ((Ltd L).getD i [])
        · rw [if_pos (by decide)]
          exact nx 1 (by rw [if_pos ⟨e1, hr⟩])
        · rw [if_neg (by decide)]
          exact nx0 (fun z => by rw [hr] at z; exact absurd z.2 (by decide))
      · rw [if_neg e1]
        exact nx0 (fun z => e1 z.1)
  have go : ∀ (a : Int) (N : Mem), FrM M N → (∀ M' : Mem, FrM M M' → Q (a + nTld L o + nLrn L W o) M') → WR 280 34 [some (vR 204), some (vI o), some (vL a), none, some (vI 0)] [] N (fun r M' => ∃ x, r = vL x ∧ Q x M') := fun a N g hQ => by
    have := p34 (Ltd L).length 0 a N (by omega) g hQ
    rw [show sN (fun i => if (((Ltd L).getD i []).length : Int) = o ∧ rising L ((Ltd L).getD i []) = false then 1 else 0) 0 = 0 from rfl, Int.add_zero] at this
    exact this
  rw [h.1.2.2.2.1.1]
  refine ⟨by omega, ?_⟩
  by_cases qr : Lz L 0 = -1
  · rw [if_pos qr] at hQ ⊢
    exact go 0 M FrM.rf hQ
  · rw [if_neg qr] at hQ ⊢
    have := m278 (Q := fun y4 M3 => WR 280 34 [some (vR 204), some (vI o), some (vL y4), none, some (vI 0)] [] M3 (fun r M' => ∃ x, r = vL x ∧ Q x M')) h.1 (size := o.toNat) (up := 1) (by omega) (Or.inr rfl) (fun M' g => go _ M' g (fun M2 g2 => by
      rw [if_neg (show ¬ o.toNat = 0 by omega), if_neg (by decide)]
      exact hQ M2 g2))
    rw [← eo] at this
    exact this
theorem opC_5 (L : Lw) (W : List (List Int)) : opC L W 5 = 0 := rfl
theorem poss_sum (T : Int → Int → Int) {n : Int} (h : 1 ≤ n ∧ n ≤ 6) (h5 : ∀ k, T 5 k = 0) : smF (fun k => smF (fun o => T o k) 0 (n + 1 - k).toNat) 1 2 = smF (fun o => smF (fun k => if n - o - k < 0 then 0 else T o k) 1 2) 0 (min 4 (n - 1) + 1).toNat := by
  have h6 : n = 1 ∨ n = 2 ∨ n = 3 ∨ n = 4 ∨ n = 5 ∨ n = 6 := by omega
  have a1 := h5 1
  rcases h6 with rfl | rfl | rfl | rfl | rfl | rfl
  all_goals (simp [smF, Int.min_def]; try omega)
theorem mPoss {Q : Int → Mem → Prop} {n : Int} (h : MdlQ M L W S c) (hi : inR n) (hQ : ∀ M' : Mem, FrM M M' → Q (aPoss L W n) M') : WI 281 [vR 204, vI n] M Q := by
  have hn16 := h.1.2.2.2.2.1.1
  have hg6 := h.1.2.2.2.2.2.1.2.2.1
  have hz := h.1.2.2.2.2.2.2
  unfold WfZ at hz
  have hpk := nPk_r hn16
  unfold aPoss at hQ
  refine t_281 o204 ?_
  rw [wr_id hi, m177 (by omega) (by decide) (by decide)]
  refine ⟨by have := b2i_r (decide (1 ≤ n ∧ n ≤ 6)); omega, ?_⟩
  by_cases q : 1 ≤ n ∧ n ≤ 6
  rotate_left
  · rw [if_neg q] at hQ
    rw [decide_eq_false q, if_pos (by decide)]
    exact ⟨_, rfl, hQ M FrM.rf⟩
  rw [if_pos q, poss_sum (pT L W n) q (fun k => by unfold pT; rw [opC_5, Int.zero_mul, Int.zero_mul])] at hQ
  rw [decide_eq_true q, if_neg (by decide)]
  have p52 : ∀ (m : Nat) (o a : Int) (l6 l7 : Option AV) (N : Mem), 0 ≤ o → o + m = min 4 (n - 1) + 1 → FrM M N → (∀ M' : Mem, FrM M M' → Q (a + smF (fun o => smF (fun k => if n - o - k < 0 then 0 else pT L W n o k) 1 2) o m) M') → WR 281 52 [some (vR 204), some (vI n), some (vL a), none, some (vI (nPk L)), some (vI o), l6, l7] [] N (fun r M' => ∃ x, r = vI x ∧ Q x M') := by
    intro m
    induction m with
    | zero =>
      intro o a l6 l7 N o0 om g hQ
      refine t_281_52 o204 ?_
      rw [m179 (by decide) (by omega)]
      refine ⟨by omega, by omega, ?_⟩
      rw [if_pos (by omega)]
      have := hQ N g
      rw [show smF (fun o => smF (fun k => if n - o - k < 0 then 0 else pT L W n o k) 1 2) o 0 = 0 from rfl, Int.add_zero] at this
      exact ⟨_, rfl, this⟩
    | succ m ih =>
      intro o a l6 l7 N o0 om g hQ
      refine t_281_52 o204 ?_
      rw [m179 (by decide) (by omega)]
      refine ⟨by omega, by omega, ?_⟩
      rw [if_neg (by omega)]
      rw [show smF (fun o => smF (fun k => if n - o - k < 0 then 0 else pT L W n o k) 1 2) o (m + 1) = smF (fun k => if n - o - k < 0 then 0 else pT L W n o k) 1 2 + smF (fun o => smF (fun k => if n - o - k < 0 then 0 else pT L W n o k) 1 2) (o + 1) m from rfl, ← Int.add_assoc] at hQ
      have inner : ∀ (t : Nat) (k a : Int) (l7 : Option AV) (N : Mem), 1 ≤ k → k + t = 3 → FrM M N → (∀ M' : Mem, FrM M M' → Q (a + smF (fun k => if n - o - k < 0 then 0 else pT L W n o k) k t + smF (fun o => smF (fun k => if n - o - k < 0 then 0 else pT L W n o k) 1 2) (o + 1) m) M') → WR 281 67 [some (vR 204), some (vI n), some (vL a), none, some (vI (nPk L)), some (vI o), some (vI k), l7] [] N (fun r M' => ∃ x, r = vI x ∧ Q x M') := by
        intro t
        induction t with
        | zero =>
          intro k a l7 N k1 kt g hQ
          refine t_281_67 o204 ⟨by omega, ?_⟩
          rw [if_pos (by omega)]
          refine ih (o + 1) a _ _ N (by omega) (by omega) g (fun M' g' => ?_)
          have := hQ M' g'
          rw [show smF (fun k => if n - o - k < 0 then 0 else pT L W n o k) k 0 = 0 from rfl, Int.add_zero] at this
          exact this
        | succ t iht =>
          intro k a l7 N k1 kt g hQ
          have hN := h.fr g
          rw [show smF (fun k => if n - o - k < 0 then 0 else pT L W n o k) k (t + 1) = (if n - o - k < 0 then 0 else pT L W n o k) + smF (fun k => if n - o - k < 0 then 0 else pT L W n o k) (k + 1) t from rfl, ← Int.add_assoc] at hQ
          refine t_281_67 o204 ⟨by omega, ?_⟩
          rw [if_neg (by omega)]
          refine ⟨by omega, ?_⟩
          by_cases q1 : n - o - k < 0
          · rw [if_pos q1]
            rw [if_pos q1, Int.add_zero] at hQ
            exact iht (k + 1) a _ N (by omega) (by omega) g hQ
          rw [if_neg q1]
          rw [if_neg q1] at hQ
          rw [hN.1.2.2.2.1.2.1]
          refine ⟨by omega, ?_⟩
          have ec : n - k - o = n - o - k := by omega
          by_cases q2 : n - o - k ≤ Lz L 1
          · rw [if_pos q2]
            have ek : vI (n - o - k) = vI (((n - o - k).toNat : Nat) : Int) := by rw [show (((n - o - k).toNat : Nat) : Int) = n - o - k by omega]
            have ecl : (if (n - o - k).toNat = 0 then 1 else chn L (if (0 : Int) = 0 then Lz L 2 else Lz L 0) (n - o - k).toNat) = clC L (n - k - o) := by
              unfold clC
              rw [ec, if_pos q2, if_pos rfl]
              by_cases q3 : n - o - k = 0
              · rw [if_pos q3, if_pos (by omega)]
              · rw [if_neg q3, if_neg (by omega)]
            refine m280 hN (by omega) (fun M1 g1 => ?_)
            have h1 := hN.fr g1
            by_cases q4 : k = 1
            · rw [if_pos q4, ek]
              refine m278 h1.1 (by omega) (Or.inl rfl) (fun M2 g2 => ?_)
              rw [ecl, wr_id (by omega)]
              have eh : nPk L = hrt L k := by unfold hrt; rw [if_pos q4]
              have go := iht (k + 1) (a + pT L W n o k) (some (vI (n - o - k))) M2 (by omega) (by omega) ((g.tr g1).tr g2) hQ
              unfold pT at go
              rw [← eh] at go
              rw [← ek]
              exact go
            · rw [if_neg q4, ek]
              refine m278 h1.1 (by omega) (Or.inl rfl) (fun M2 g2 => ?_)
              rw [ecl, h1.1.2.2.1.2.2.1, wr_id (by omega)]
              have eh : nPk L + (Lgl L).length = hrt L k := by unfold hrt; rw [if_neg q4]
              have go := iht (k + 1) (a + pT L W n o k) (some (vI (n - o - k))) M2 (by omega) (by omega) ((g.tr g1).tr g2) hQ
              unfold pT at go
              rw [eh, ← ek]
              exact go
          · rw [if_neg q2]
            have e0 : pT L W n o k = 0 := by
              unfold pT clC
              rw [ec, if_neg q2, Int.mul_zero]
            rw [e0, Int.add_zero] at hQ
            exact iht (k + 1) a _ N (by omega) (by omega) g hQ
      exact inner 2 1 a l7 N (by omega) (by omega) g hQ
  have p22 : ∀ (m i : Nat), i + m = Ln L → WR 281 22 [some (vR 204), some (vI n), some (vL 0), none, some (vI (sN (fun i => b2i (pkn L (i : Int))) i)), some (vI i), none, none] [] M (fun r M' => ∃ x, r = vI x ∧ Q x M') := by
    intro m
    induction m with
    | zero =>
      intro i hi
      refine t_281_22 o204 ?_
      rw [h.1.2.1.1]
      refine ⟨by omega, by omega, ?_⟩
      rw [if_pos (by omega), show i = Ln L by omega]
      exact p52 (min 4 (n - 1) + 1).toNat 0 0 _ _ M (by omega) (by omega) FrM.rf (fun M' g => by rw [Int.zero_add]; exact hQ M' g)
    | succ m ih =>
      intro i hi
      have e := (h.1.2.1.2.1 (i : Int) (by omega) (by omega)).2.2
      refine t_281_22 o204 ?_
      rw [h.1.2.1.1, h.1.1.at (show ((51 : Int), (221 : Int)) ∈ mpT by decide), e, ← pkn_eq (by omega) (by omega)]
      refine ⟨by omega, by omega, ?_⟩
      rw [if_neg (by omega)]
      exact ⟨gC sz_220.2 (by omega) (by show _ < ((16 : Nat) : Int); omega), ih (i + 1) (by omega)⟩
  exact p22 (Ln L) 0 (by omega)
theorem opC_b (hn : Ln L ≤ 16) (ht : (Ltd L).length ≤ 12) (hw : W.length ≤ 20) {o : Int} (ho : 0 ≤ o) : 0 ≤ opC L W o ∧ opC L W o ≤ 2 * (16 : Int) ^ o.toNat := by
  have hp := p16_pos o.toNat
  have cnt01 : ∀ (P : Nat → Prop) [DecidablePred P] (m : Nat), 0 ≤ sN (fun i => if P i then 1 else 0) m ∧ sN (fun i => if P i then 1 else 0) m ≤ m := by
    intro P _ m
    induction m with
    | zero => exact ⟨Int.le_refl _, Int.le_refl _⟩
    | succ m ih =>
      have e : sN (fun i => if P i then 1 else 0) (m + 1) = sN (fun i => if P i then 1 else 0) m + (if P m then 1 else 0) := rfl
      rw [e]
      split <;> omega
  unfold opC
  by_cases q0 : o = 0
  · rw [if_pos q0]; omega
  rw [if_neg q0]
  by_cases q1 : o = 1
  · rw [if_pos q1]
    have := chn_b hn 0 (show 1 ≤ 1 by decide)
    rw [show (16 : Int) ^ 1 = 16 from rfl] at this
    rw [q1, show (1 : Int).toNat = 1 from rfl, show (16 : Int) ^ 1 = 16 from rfl]
    omega
  rw [if_neg q1]
  by_cases q4 : o ≤ 4
  · rw [if_pos q4]
    have a := cnt01 (fun i => (((Ltd L).getD i []).length : Int) = o ∧ rising L ((Ltd L).getD i []) = false) (Ltd L).length
    have b := cnt01 (fun i => newL L W i = true ∧ ((leadL L (W.getD i [])).length : Int) = o ∧ (¬ leadL L (W.getD i []) ∈ Ltd L) ∧ rising L (leadL L (W.getD i [])) = false) W.length
    have a' : 0 ≤ nTld L o ∧ nTld L o ≤ (Ltd L).length := a
    have b' : 0 ≤ nLrn L W o ∧ nLrn L W o ≤ W.length := b
    have c := chn_b hn (Lz L 0) (show 1 ≤ o.toNat by omega)
    have d := p16_le (show 2 ≤ o.toNat by omega)
    rw [show (16 : Int) ^ 2 = 256 from rfl] at d
    split <;> omega
  · rw [if_neg q4]; omega
theorem clC_b (hn : Ln L ≤ 16) {k : Int} (hk : 0 ≤ k) : 0 ≤ clC L k ∧ clC L k ≤ (16 : Int) ^ k.toNat := by
  have hp := p16_pos k.toNat
  unfold clC
  by_cases q : k ≤ Lz L 1
  · rw [if_pos q]
    by_cases q0 : k = 0
    · rw [if_pos q0]; omega
    · rw [if_neg q0]
      exact chn_b hn _ (by omega)
  · rw [if_neg q]; omega
theorem pT_b (hn : Ln L ≤ 16) (hg : (Lgl L).length ≤ 6) (ht : (Ltd L).length ≤ 12) (hw : W.length ≤ 20) {n o k : Int} (ho : 0 ≤ o) (hk : 1 ≤ k) (hok : o + k ≤ n) (hn6 : n ≤ 6) : 0 ≤ pT L W n o k ∧ pT L W n o k ≤ 46137344 := by
  have a := opC_b (W := W) hn ht hw ho
  have b := clC_b hn (k := n - k - o) (by omega)
  have hpk := nPk_r hn
  have h1 : 0 ≤ hrt L k ∧ hrt L k ≤ 22 := by unfold hrt; split <;> omega
  have c1 := mul_r a.1 a.2 h1.1 h1.2
  have c2 := mul_r c1.1 c1.2 b.1 b.2
  unfold pT
  refine ⟨c2.1, Int.le_trans c2.2 ?_⟩
  have e : 2 * (16 : Int) ^ o.toNat * 22 * (16 : Int) ^ (n - k - o).toNat = 44 * (16 : Int) ^ (o.toNat + (n - k - o).toNat) := by
    rw [Int.pow_add, Int.mul_comm 2, Int.mul_assoc ((16 : Int) ^ o.toNat) 2 22, Int.mul_comm ((16 : Int) ^ o.toNat), Int.mul_assoc, show (2 : Int) * 22 = 44 from rfl]
  have d := p16_le (show o.toNat + (n - k - o).toNat ≤ 5 by omega)
  rw [show (16 : Int) ^ 5 = 1048576 from rfl] at d
  rw [e]
  omega
theorem aPoss_r (hwf : Wf L) (hw : W.length ≤ 20) (n : Int) : inR (aPoss L W n) := by
  have hn := hwf.1.1
  have ht := hwf.2.1.1
  have hg := hwf.2.1.2.2.1
  unfold aPoss
  by_cases q : 1 ≤ n ∧ n ≤ 6
  rotate_left
  · rw [if_neg q]; decide
  rw [if_pos q]
  have inn : ∀ k : Int, 1 ≤ k → k ≤ 2 → 0 ≤ smF (fun o => pT L W n o k) 0 (n + 1 - k).toNat ∧ smF (fun o => pT L W n o k) 0 (n + 1 - k).toNat ≤ 46137344 * ((n + 1 - k).toNat : Int) := fun k a b => smF_r (by decide) _ _ (fun o x y => pT_b hn hg ht hw x a (by omega) q.2)
  have i1 := inn 1 (by decide) (by decide)
  have i2 := inn 2 (by decide) (by decide)
  have e : smF (fun k => smF (fun o => pT L W n o k) 0 (n + 1 - k).toNat) 1 2 = smF (fun o => pT L W n o 1) 0 (n + 1 - 1).toNat + (smF (fun o => pT L W n o 2) 0 (n + 1 - 2).toNat + 0) := rfl
  rw [e]
  omega
end PM2
