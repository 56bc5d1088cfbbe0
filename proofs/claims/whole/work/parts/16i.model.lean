/-! THE MODEL'S CHEAPEST CUT. -/
theorem chp_succ (t : List Int → Int) (bs : List Int) (n : Nat) (d b : List Int) (x : Int) : chp t bs (n + 1) d b x = match nxtL bs d with
    | none => (b, x)
    | some e => if t e < x then chp t bs n e e (t e) else chp t bs n e b x := rfl
section MJ
variable {M : Mem} {k : Int} {L : Lw} {W : List (List Int)} {X : Ct} {c : Int → Int}
theorem m250 {Q : Int → Mem → Prop} (h : MCutH M L W X) (hx : Xc X = 0 ∧ Xw X = 0) (hG : GOk X) (hC : MCost M c) (hCs : CstIs (fun _ j => c (j : Int)) 0 c) (hQ : ∀ M' : Mem, (∀ k : Int, k ≠ 235 → k ≠ 236 → M' k = M k) → MCut M' L W (wG X (chpR L W c X).1) → Q (chpR L W c X).2 M') : WI 250 [vR 204] M Q := by
  have hH := h.2.2.2.2.2.2.1
  have hw := h.1.2.2.2.2
  have hc12 := hH.1
  have hcl : cnt X = X.2.1.length := rfl
  have ptr : ∀ {N : Mem}, (∀ k : Int, k ≠ 235 → k ≠ 236 → N k = M k) → N 204 67 = 235 ∧ N 204 68 = 236 := fun {N} g => ⟨(h.up g).p.2.2.2.1, (h.up g).p.2.2.2.2.1⟩
  have g35 : ∀ {j : Int}, 0 ≤ j → j < 12 → gA 20 235 j := fun {j} a b => gC zC.2.2.2.1 a b
  have g36 : ∀ {j : Int}, 0 ≤ j → j < 12 → gA 20 236 j := fun {j} a b => gC zC.2.2.2.2.1 a b
  -- the end: the best one laid back
  have fin : ∀ (n : Nat) (x : Int) (j : Int) (x2 : Int) (l4 : Option AV) (b : List Int) (N : Mem), 0 ≤ j → j + n = 12 → (∀ k : Int, k ≠ 235 → k ≠ 236 → N k = M k) → (∀ k : Int, 0 ≤ k → k + 1 < cnt X → N 236 k = gi b k) → (∀ k : Int, 0 ≤ k → k + 1 < cnt X → k < j → N 235 k = gi b k) → GOk (wG X b) → (∀ M' : Mem, (∀ k : Int, k ≠ 235 → k ≠ 236 → M' k = M k) → MCut M' L W (wG X b) → Q x M') → WR 250 69 [some (vR 204), some (vI x), some (vI x2), some (vI j), l4] [] N (fun r M' => ∃ x, r = vI x ∧ Q x M') := by
    intro n
    induction n with
    | zero =>
      intro x j x2 l4 b N hj hn g hb hc hGb hQ
      refine t_250_69 o204 ⟨by omega, ?_⟩
      rw [if_pos (by omega)]
      exact ⟨x, rfl, hQ N g ⟨h.up g, fun k a q => hc k a q (by have : k + 1 < cnt X := q; omega), hGb, hx.1, hx.2⟩⟩
    | succ n ih =>
      intro x j x2 l4 b N hj hn g hb hc hGb hQ
      refine t_250_69 o204 ⟨by omega, ?_⟩
      rw [if_neg (by omega), (ptr g).1, (ptr g).2]
      refine ⟨g36 hj (by omega), g35 hj (by omega), ih x (j + 1) x2 l4 b _ (by omega) (by omega) (fun k a q => by rw [upM_o a]; exact g k a q) (fun k a q => by rw [upM_o (by decide)]; exact hb k a q) (fun k a q q2 => ?_) hGb hQ⟩
      by_cases e : k = j
      · rw [e, upM_s]
        exact hb j hj (by omega)
      · rw [upM_f e]
        exact hc k a q (by omega)
  -- the copy of a better one
  have cpy : ∀ (n : Nat) (j x x2 x3 : Int) (N : Mem) (P : AV → Mem → Prop), 0 ≤ j → j + n = 12 → (∀ k : Int, k ≠ 235 → k ≠ 236 → N k = M k) → (∀ N' : Mem, (∀ k : Int, k ≠ 236 → N' k = N k) → (∀ k : Int, 0 ≤ k → k < 12 → N' 236 k = if k < j then N 236 k else N 235 k) → WI 248 [vR 204] N' (fun y3 M2 => WR 250 8 [some (vR 204), some (vI x), some (vI y3), some (vI x3), some (vI 12)] [] M2 P)) → WR 250 32 [some (vR 204), some (vI x), some (vI x2), some (vI x3), some (vI j)] [] N P := by
    intro n
    induction n with
    | zero =>
      intro j x x2 x3 N P hj hn g hP
      refine t_250_32 o204 ⟨by omega, ?_⟩
      rw [if_pos (by omega), show j = 12 by omega]
      exact hP N (fun _ _ => rfl) (fun k a b => by rw [if_pos (by omega)])
    | succ n ih =>
      intro j x x2 x3 N P hj hn g hP
      refine t_250_32 o204 ⟨by omega, ?_⟩
      rw [if_neg (by omega), (ptr g).1, (ptr g).2]
      refine ⟨g35 hj (by omega), g36 hj (by omega), ih (j + 1) x x2 x3 _ P (by omega) (by omega) (fun k a q => by rw [upM_o q]; exact g k a q) (fun N' a b => hP N' (fun k q => by rw [a k q, upM_o q]) (fun k q0 q1 => ?_))⟩
      rw [b k q0 q1, upM_o (show (235 : Int) ≠ 236 by decide)]
      by_cases e : k = j
      · rw [e, if_pos (by omega), upM_s, if_neg (by omega)]
      · by_cases e2 : k < j
        · rw [if_pos (by omega), if_pos e2, upM_f e]
        · rw [if_neg (by omega), if_neg e2]
  -- from a cut that has been looked at to the next one
  have nxt : ∀ (n : Nat) (x x3 : Int) (l4 : Option AV) (d b : List Int) (N : Mem), (∀ (e : List Int) (M' : Mem), nxtL (bsL X) d = some e → rkL (bsL X) e + 1 = rkL (bsL X) d → (∀ k : Int, k ≠ 235 → k ≠ 236 → M' k = M k) → MCut M' L W (wG X e) → e.length = X.2.1.length - 1 → M' 236 = N 236 → WR 250 8 [some (vR 204), some (vI x), some (vI 1), some (vI x3), l4] [] M' (fun r M' => ∃ x, r = vI x ∧ Q x M')) → (∀ k : Int, k ≠ 235 → k ≠ 236 → N k = M k) → MCut N L W (wG X d) → d.length = X.2.1.length - 1 → (∀ k : Int, 0 ≤ k → k + 1 < cnt X → N 236 k = gi b k) → GOk (wG X b) → (nxtL (bsL X) d = none → ∀ M' : Mem, (∀ k : Int, k ≠ 235 → k ≠ 236 → M' k = M k) → MCut M' L W (wG X b) → Q x M') → WI 248 [vR 204] N (fun y7 M6 => WR 250 8 [some (vR 204), some (vI x), some (vI y7), some (vI x3), l4] [] M6 (fun r M' => ∃ x, r = vI x ∧ Q x M')) := by
    intro n x x3 l4 d b N hS g hd hl hb hGb hQ
    refine m248 hd hl (fun M' g1 => ?_)
    have gM : ∀ k : Int, k ≠ 235 → k ≠ 236 → M' k = M k := fun k a q => (g1 k a).trans (g k a q)
    have h36 : M' 236 = N 236 := g1 236 (by decide)
    show match nxtL (bsL X) d with
      | some e => MCut M' L W (wG X e) → _
      | none => _
    cases hn : nxtL (bsL X) d with
    | none =>
      refine t_250_8 o204 ⟨by decide, ?_⟩
      rw [if_pos rfl]
      exact fin 12 x 0 0 _ b M' (by omega) (by omega) gM (fun k a q => by rw [h36]; exact hb k a q) (fun k a q q2 => by omega) hGb (hQ hn)
    | some e =>
      dsimp only
      intro hM'
      have hel := nxt_len _ _ _ hn
      exact hS e M' hn (rk_nxt _ _ _ (VL_X (X := wG X d) hd.2.2.1 hl) hn).1 gM hM' (by omega) h36
  have lp : ∀ (n : Nat) (x x3 : Int) (l4 : Option AV) (d e b : List Int) (N : Mem), rkL (bsL X) e ≤ n → 0 ≤ x → inR x → (∀ k : Int, k ≠ 235 → k ≠ 236 → N k = M k) → MCut N L W (wG X e) → e.length = X.2.1.length - 1 → (∀ k : Int, 0 ≤ k → k + 1 < cnt X → N 236 k = gi b k) → GOk (wG X b) → (∀ M' : Mem, (∀ k : Int, k ≠ 235 → k ≠ 236 → M' k = M k) → MCut M' L W (wG X (if tot L W c (wG X e) < x then chp (fun d => tot L W c (wG X d)) (bsL X) n e e (tot L W c (wG X e)) else chp (fun d => tot L W c (wG X d)) (bsL X) n e b x).1) → Q (if tot L W c (wG X e) < x then chp (fun d => tot L W c (wG X d)) (bsL X) n e e (tot L W c (wG X e)) else chp (fun d => tot L W c (wG X d)) (bsL X) n e b x).2 M') → WR 250 8 [some (vR 204), some (vI x), some (vI 1), some (vI x3), l4] [] N (fun r M' => ∃ x, r = vI x ∧ Q x M') := by
    intro n
    induction n with
    | zero =>
      intro x x3 l4 d e b N hr hx0 hxr g hd hl hb hGb hQ
      have ht := tot_r (W := W) hw (X := wG X e) hH hd.2.2.1 hCs
      have hno : ∀ e', nxtL (bsL X) e = some e' → rkL (bsL X) e' + 1 = rkL (bsL X) e → False := fun e' _ q => by omega
      refine t_250_8 o204 ⟨by decide, ?_⟩
      rw [if_neg (by decide), m246 hd (hC.fr (frm35 g))]
      refine ⟨hxr, ?_⟩
      rw [if_neg (by omega)]
      refine ⟨by omega, ?_⟩
      by_cases q : x ≤ tot L W c (wG X e)
      · rw [if_pos q]
        rw [if_neg (by omega)] at hQ
        exact nxt 0 x _ _ e b N (fun e' M' a b1 _ _ _ _ => (hno e' a b1).elim) g hd hl hb hGb (fun _ => hQ)
      · rw [if_neg q]
        rw [if_pos (by omega)] at hQ
        refine cpy 12 0 _ _ _ N _ (by omega) (by omega) g (fun N' a b1 => ?_)
        have gN : ∀ k : Int, k ≠ 235 → k ≠ 236 → N' k = M k := fun k q1 q2 => (a k q2).trans (g k q1 q2)
        have hdN : MCut N' L W (wG X e) := ⟨h.up gN, fun k q1 q2 => by rw [a 235 (by decide)]; exact hd.2.1 k q1 q2, hd.2.2⟩
        exact nxt 0 _ _ _ e e N' (fun e' M' a b1 _ _ _ _ => (hno e' a b1).elim) gN hdN hl (fun k q1 q2 => by rw [b1 k q1 (by omega), if_neg (by omega)]; exact hd.2.1 k q1 q2) hd.2.2.1 (fun _ => hQ)
    | succ n ih =>
      intro x x3 l4 d e b N hr hx0 hxr g hd hl hb hGb hQ
      have ht := tot_r (W := W) hw (X := wG X e) hH hd.2.2.1 hCs
      have hu : ∀ (b : List Int) (x : Int), chp (fun d => tot L W c (wG X d)) (bsL X) (n + 1) e b x = match nxtL (bsL X) e with
        | none => (b, x)
        | some e' => if tot L W c (wG X e') < x then chp (fun d => tot L W c (wG X d)) (bsL X) n e' e' (tot L W c (wG X e')) else chp (fun d => tot L W c (wG X d)) (bsL X) n e' b x := fun _ _ => rfl
      refine t_250_8 o204 ⟨by decide, ?_⟩
      rw [if_neg (by decide), m246 hd (hC.fr (frm35 g))]
      refine ⟨hxr, ?_⟩
      rw [if_neg (by omega)]
      refine ⟨by omega, ?_⟩
      by_cases q : x ≤ tot L W c (wG X e)
      · rw [if_pos q]
        rw [if_neg (by omega), hu] at hQ
        refine nxt 0 x _ _ e b N (fun e' M' a rk gM hM' hel h36 => ?_) g hd hl hb hGb (fun a => ?_)
        · rw [a] at hQ
          exact ih x _ _ e e' b M' (by omega) hx0 hxr gM hM' hel (fun k q1 q2 => by rw [h36]; exact hb k q1 q2) hGb hQ
        · rw [a] at hQ
          exact hQ
      · rw [if_neg q]
        rw [if_pos (by omega), hu] at hQ
        refine cpy 12 0 _ _ _ N _ (by omega) (by omega) g (fun N' a b1 => ?_)
        have gN : ∀ k : Int, k ≠ 235 → k ≠ 236 → N' k = M k := fun k q1 q2 => (a k q2).trans (g k q1 q2)
        have hdN : MCut N' L W (wG X e) := ⟨h.up gN, fun k q1 q2 => by rw [a 235 (by decide)]; exact hd.2.1 k q1 q2, hd.2.2⟩
        have hbN : ∀ k : Int, 0 ≤ k → k + 1 < cnt X → N' 236 k = gi e k := fun k q1 q2 => by rw [b1 k q1 (by omega), if_neg (by omega)]; exact hd.2.1 k q1 q2
        refine nxt 0 _ _ _ e e N' (fun e' M' a rk gM hM' hel h36 => ?_) gN hdN hl hbN hd.2.2.1 (fun a => ?_)
        · rw [a] at hQ
          exact ih _ _ _ e e' e M' (by omega) (by omega) (by omega) gM hM' hel (fun k q1 q2 => by rw [h36]; exact hbN k q1 q2) hd.2.2.1 hQ
        · rw [a] at hQ
          exact hQ
  refine t_250 o204 (m247 h.1.1 (fun M1 g hz => ?_))
  have gM : ∀ k : Int, k ≠ 235 → k ≠ 236 → M1 k = M k := fun k a _ => g k a
  have hd := mZ0 h hx hG g hz
  have ht := tot_r (W := W) hw (X := wG X (Z0 X)) hH hd.2.2.1 hCs
  have hzl : (Z0 X).length = X.2.1.length - 1 := List.length_replicate
  refine t_250_8 o204 ⟨by decide, ?_⟩
  rw [if_neg (by decide), m246 hd (hC.fr (frm35 gM)), if_pos rfl]
  refine ⟨by decide, cpy 12 0 _ _ _ M1 _ (by omega) (by omega) gM (fun N' a b1 => ?_)⟩
  have gN : ∀ k : Int, k ≠ 235 → k ≠ 236 → N' k = M k := fun k q1 q2 => (a k q2).trans (gM k q1 q2)
  have hdN : MCut N' L W (wG X (Z0 X)) := ⟨h.up gN, fun k q1 q2 => by rw [a 235 (by decide)]; exact hd.2.1 k q1 q2, hd.2.2⟩
  have hbN : ∀ k : Int, 0 ≤ k → k + 1 < cnt X → N' 236 k = gi (Z0 X) k := fun k q1 q2 => by rw [b1 k q1 (by omega), if_neg (by omega)]; exact hd.2.1 k q1 q2
  have hrk := rk_X hH
  have hu : chpR L W c X = match nxtL (bsL X) (Z0 X) with
    | none => (Z0 X, tot L W c (wG X (Z0 X)))
    | some e' => if tot L W c (wG X e') < tot L W c (wG X (Z0 X)) then chp (fun d => tot L W c (wG X d)) (bsL X) 99999 e' e' (tot L W c (wG X e')) else chp (fun d => tot L W c (wG X d)) (bsL X) 99999 e' (Z0 X) (tot L W c (wG X (Z0 X))) := by
    unfold chpR
    exact chp_succ (fun d => tot L W c (wG X d)) (bsL X) 99999 (Z0 X) (Z0 X) (tot L W c (wG X (Z0 X)))
  rw [hu] at hQ
  refine nxt 0 _ _ _ (Z0 X) (Z0 X) N' (fun e' M' a rk gM' hM' hel h36 => ?_) gN hdN hzl hbN hd.2.2.1 (fun a => ?_)
  · rw [a] at hQ
    exact lp 99999 _ _ _ (Z0 X) e' (Z0 X) M' (by omega) (by omega) (by omega) gM' hM' hel (fun k q1 q2 => by rw [h36]; exact hbN k q1 q2) hd.2.2.1 hQ
  · rw [a] at hQ
    exact hQ
end MJ
