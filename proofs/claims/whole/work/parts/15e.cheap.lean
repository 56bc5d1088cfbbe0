/-! THE CHEAPEST CUT, a cut as it is told, the number of cuts: by the class. -/
theorem cp_12 : gCp 12 13 0 0 12 ∧ gCp 13 12 0 0 12 := by
  unfold gCp
  decide +kernel
theorem cp_at {M : Mem} {a b j : Int} (h0 : 0 ≤ j) (h1 : j < 12) : cpM M a b 0 0 12 b j = M a j := by
  unfold cpM
  rw [if_pos ⟨rfl, by omega, by omega⟩]
  congr 1
  omega
theorem cp_o {M : Mem} {a b k : Int} (h : k ≠ b) : cpM M a b 0 0 12 k = M k := by
  funext j
  unfold cpM
  rw [if_neg (fun q => h q.1)]
/-- the cheapest: its gaps, its cost -/
def chpR (L : Lw) (W : List (List Int)) (c : Int → Int) (X : Ct) : List Int × Int := chp (fun d => tot L W c (wG X d)) (bsL X) 100000 (Z0 X) (Z0 X) (tot L W c (wG X (Z0 X)))
section CH
variable {M : Mem} {p r : Int} {L : Lw} {W : List (List Int)} {l : List Int} {X : Ct} {c : Int → Int}
theorem s18 {Q : Int → Mem → Prop} (h : CutIs M p L W X) (hC : CstIs M p c) (hQ : ∀ M' : Mem, FrC M M' → CutIs M' p L W (wG X (chpR L W c X).1) → Q (chpR L W c X).2 M') : WI 18 [vR 9] M Q := by
  have hH := h.1.2.2.2.2.1
  have hw := h.1.1.2.2.2.2.2
  have hp := h.1.1.1
  have hc12 := hH.1
  have frc : ∀ {N : Mem}, (∀ k : Int, k ≠ 12 → k ≠ 13 → N k = M k) → FrC M N := fun {N} g => ⟨fun k q => g k (by omega) (by omega), fun j _ _ => by rw [g 9 (by decide) (by decide)]⟩
  have pt : ∀ {N : Mem}, (∀ k : Int, k ≠ 12 → k ≠ 13 → N k = M k) → N 9 2 = 12 ∧ N 9 3 = 13 := fun {N} g => by
    have := h.1.up g
    exact ⟨this.2.2.2.1.2.2.1, this.2.2.2.1.2.2.2.1⟩
  have fin : ∀ (N : Mem) (b : List Int) (x : Int), (∀ k : Int, k ≠ 12 → k ≠ 13 → N k = M k) → (∀ k : Int, 0 ≤ k → k < cnt X → N 13 k = cls (wG X b) k) → GOk (wG X b) → (∀ M' : Mem, FrC M M' → CutIs M' p L W (wG X b) → Q x M') → gCp (N 9 3) (N 9 2) 0 0 12 ∧ (fun (r : AV) M' => ∃ x, r = vI x ∧ Q x M') (vI x) (cpM N (N 9 3) (N 9 2) 0 0 12) := by
    intro N b x g hb hG hQ
    rw [(pt g).1, (pt g).2]
    have g2 : ∀ k : Int, k ≠ 12 → k ≠ 13 → cpM N 13 12 0 0 12 k = M k := fun k a b => by rw [cp_o a]; exact g k a b
    refine ⟨cp_12.2, x, rfl, hQ _ (frc g2) ⟨(h.1.up g2).g b, fun k a b => ?_, hG⟩⟩
    replace b : k < cnt X := b
    rw [cp_at a (by omega)]
    exact hb k a b
  have key : ∀ (n : Nat) (i x : Int) (l3 : Option AV) (d b : List Int) (N : Mem), i + n = 100000 → 0 ≤ i → inR x → (∀ k : Int, k ≠ 12 → k ≠ 13 → N k = M k) → CutIs N p L W (wG X d) → d.length = X.2.1.length - 1 → (∀ k : Int, 0 ≤ k → k < cnt X → N 13 k = cls (wG X b) k) → GOk (wG X b) → (∀ M' : Mem, FrC M M' → CutIs M' p L W (wG X (chp (fun d => tot L W c (wG X d)) (bsL X) n d b x).1) → Q (chp (fun d => tot L W c (wG X d)) (bsL X) n d b x).2 M') → WR 18 26 [some (vR 9), some (vI x), some (vI i), l3] [] N (fun r M' => ∃ x, r = vI x ∧ Q x M') := by
    intro n
    induction n with
    | zero =>
      intro i x l3 d b N hi h0 hx g hd hl hb hG hQ
      refine t_18_26 sh_cut.1 ⟨by omega, ?_⟩
      rw [if_pos (by omega)]
      exact fin N b x g hb hG hQ
    | succ n ih =>
      intro i x l3 d b N hi h0 hx g hd hl hb hG hQ
      refine t_18_26 sh_cut.1 ⟨by omega, ?_⟩
      rw [if_neg (by omega)]
      refine s19 hd hl (fun M' g1 => ?_)
      have gM : ∀ k : Int, k ≠ 12 → k ≠ 13 → M' k = M k := fun k a b => (g1 k a).trans (g k a b)
      have h13 : M' 13 = N 13 := g1 13 (by decide)
      have hu : chp (fun d => tot L W c (wG X d)) (bsL X) (n + 1) d b x = match nxtL (bsL X) d with
        | none => (b, x)
        | some e => if tot L W c (wG X e) < x then chp (fun d => tot L W c (wG X d)) (bsL X) n e e (tot L W c (wG X e)) else chp (fun d => tot L W c (wG X d)) (bsL X) n e b x := rfl
      show match nxtL (bsL X) d with
        | some e => CutIs M' p L W (wG X e) → _
        | none => _
      cases hn : nxtL (bsL X) d with
      | none =>
        dsimp only
        refine ⟨by decide, ?_⟩
        rw [if_pos rfl]
        rw [hu, hn] at hQ
        exact fin M' b x gM (fun k a q => by rw [h13]; exact hb k a q) hG hQ
      | some e =>
        dsimp only
        intro hM'
        have hCM := hC.fr hp (frc gM).fr
        have hr := tot_r (W := W) hw (X := wG X e) hH hM'.2.2 hCM
        refine ⟨by decide, ?_⟩
        rw [if_neg (by decide), s36 hM' hCM, (pt gM).1, (pt gM).2]
        refine ⟨by omega, hx, ?_⟩
        have hel := nxt_len _ _ _ hn
        rw [hu, hn] at hQ
        dsimp only at hQ
        by_cases q : x ≤ tot L W c (wG X e)
        · rw [if_pos q]
          rw [if_neg (by omega)] at hQ
          exact ih (i + 1) x _ e b M' (by omega) (by omega) hx gM hM' (by omega) (fun k a q => by rw [h13]; exact hb k a q) hG hQ
        · rw [if_neg q]
          rw [if_pos (by omega)] at hQ
          have g2 : ∀ k : Int, k ≠ 12 → k ≠ 13 → cpM M' 12 13 0 0 12 k = M k := fun k a b => by rw [cp_o b]; exact gM k a b
          have h12 : cpM M' 12 13 0 0 12 12 = M' 12 := cp_o (by decide)
          refine ⟨cp_12.1, ih (i + 1) _ _ e e _ (by omega) (by omega) (by omega) g2 ⟨(h.1.up g2).g e, fun k a q => by rw [h12]; exact hM'.2.1 k a q, hM'.2.2⟩ (by omega) (fun k a q => by rw [cp_at a (by omega)]; exact hM'.2.1 k a q) hM'.2.2 hQ⟩
  refine t_18 sh_cut.1 (s12' h fun M' g hM' => ?_)
  have gM : ∀ k : Int, k ≠ 12 → k ≠ 13 → M' k = M k := fun k a _ => g k a
  rw [(pt gM).1, (pt gM).2]
  refine ⟨cp_12.1, ?_⟩
  have g2 : ∀ k : Int, k ≠ 12 → k ≠ 13 → cpM M' 12 13 0 0 12 k = M k := fun k a b => by rw [cp_o b]; exact gM k a b
  have h12 : cpM M' 12 13 0 0 12 12 = M' 12 := cp_o (by decide)
  have hN : CutIs (cpM M' 12 13 0 0 12) p L W (wG X (Z0 X)) := ⟨(h.1.up g2).g _, fun k a q => by rw [h12]; exact hM'.2.1 k a q, hM'.2.2⟩
  have hCM := hC.fr hp (frc g2).fr
  have hr := tot_r (W := W) hw (X := wG X (Z0 X)) hH hM'.2.2 hCM
  rw [s36 hN hCM]
  exact key 100000 0 _ _ (Z0 X) (Z0 X) _ (by omega) (by omega) (by omega) g2 hN List.length_replicate (fun k a q => by rw [cp_at a (by omega)]; exact hM'.2.1 k a q) hM'.2.2 hQ
/-- the number of all cuts -/
def waysF (X : Ct) : Int → Nat → Int → Int
  | _, 0, a => a
  | j, n + 1, a => waysF X (j + 1) n (a * (beh X j + 1))
def waysX (X : Ct) : Int := waysF X 0 (X.2.1.length - 1) (if cnt X = 0 then 0 else 1)
theorem s16 {Q : Int → Mem → Prop} (h : CutH M p L W X) : WI 16 [vR 9] M Q = Q (waysX X) M := by
  have hH := h.2.2.2.2.1
  have hc12 := hH.1
  have hcl : cnt X = X.2.1.length := rfl
  have h9 := h.2.2.2.1.2.2.2.2.2.1
  have key : ∀ (n : Nat) (j a : Int) (P : AV → Mem → Prop), 0 ≤ j → (j + n = cnt X - 1 ∨ (n = 0 ∧ j = 0 ∧ cnt X = 0)) → P (vI (waysF X j n a)) M → WR 16 15 [some (vR 9), some (vI a), some (vI j)] [] M P := by
    intro n
    induction n with
    | zero =>
      intro j a P hj hn hP
      refine t_16_15 sh_cut.1 ?_
      rw [h9]
      refine ⟨by omega, by omega, ?_⟩
      rw [if_pos (by omega)]
      exact hP
    | succ n ih =>
      intro j a P hj hn hP
      refine t_16_15 sh_cut.1 ?_
      rw [h9, s15 h hj (by omega)]
      refine ⟨by omega, by omega, ?_⟩
      rw [if_neg (by omega)]
      exact ih (j + 1) _ P (by omega) (by omega) hP
  refine FN.wi (WC.fn (t_16 sh_cut.1 ?_))
  unfold waysX
  rw [h9]
  refine ⟨by omega, ?_⟩
  by_cases q : cnt X = 0
  · rw [if_pos q, if_pos q]
    exact key _ 0 0 _ (by omega) (by omega) ⟨rfl, rfl⟩
  · rw [if_neg q, if_neg q]
    exact key _ 0 1 _ (by omega) (by omega) ⟨rfl, rfl⟩
end CH
