/-! THE MODEL'S CUTS COUNTED, the plain one, the cheapest. -/
section MG
variable {M : Mem} {k : Int} {L : Lw} {W : List (List Int)} {X : Ct} {c : Int → Int}
theorem m251 {Q : Int → Mem → Prop} {m : Int} (h : MCutH M L W X) (hx : Xc X = 0 ∧ Xw X = 0) (hG : GOk X) (hC : MCost M c) (hm : inR m) (hCs : CstIs (fun _ j => c (j : Int)) 0 c) (hQ : ∀ M' : Mem, (∀ k : Int, k ≠ 235 → M' k = M k) → Q (upTo L W c X m) M') : WI 251 [vR 204, vI m] M Q := by
  have hH := h.2.2.2.2.2.2.1
  have hw := h.1.2.2.2.2
  have hcl : cnt X = X.2.1.length := rfl
  have key : ∀ (n : Nat) (a : Int) (d : List Int) (N : Mem), rkL (bsL X) d ≤ n → (∀ k : Int, k ≠ 235 → N k = M k) → MCut N L W (wG X d) → d.length = X.2.1.length - 1 → (∀ M' : Mem, (∀ k : Int, k ≠ 235 → M' k = M k) → Q (a + (b2i (decide (tot L W c (wG X d) ≤ m)) + cntU (fun d => decide (tot L W c (wG X d) ≤ m)) (bsL X) n d)) M') → WR 251 17 [some (vR 204), some (vI m), some (vI a), some (vI 1)] [] N (fun r M' => ∃ x, r = vI x ∧ Q x M') := by
    intro n
    induction n with
    | zero =>
      intro a d N hr hN hd hl hQ
      have ht := tot_r (W := W) hw (X := wG X d) hH hd.2.2.1 hCs
      have hCN := hC.fr (frm35 (fun k a _ => hN k a))
      refine t_251_17 o204 ⟨by decide, ?_⟩
      rw [if_neg (by decide), m246 hd hCN]
      refine ⟨by omega, by omega, ?_⟩
      have nx : ∀ z : Int, z = b2i (decide (tot L W c (wG X d) ≤ m)) → WI 248 [vR 204] N (fun y9 M8 => WR 251 17 [some (vR 204), some (vI m), some (vI (a + z)), some (vI y9)] [] M8 (fun r M' => ∃ x, r = vI x ∧ Q x M')) := by
        intro z hz
        refine m248 hd hl (fun M' g => ?_)
        show match nxtL (bsL X) d with
          | some e => MCut M' L W (wG X e) → _
          | none => _
        cases hn : nxtL (bsL X) d with
        | some e =>
          have := (rk_nxt _ _ _ (VL_X (X := wG X d) hd.2.2.1 hl) hn).1
          have e2 : rkL (bsL (wG X d)) (Xd (wG X d)) = rkL (bsL X) d := rfl
          omega
        | none =>
          refine t_251_17 o204 ⟨by decide, ?_⟩
          rw [if_pos rfl]
          refine ⟨a + z, rfl, ?_⟩
          have := hQ M' (fun k q => (g k q).trans (hN k q))
          rw [show cntU (fun d => decide (tot L W c (wG X d) ≤ m)) (bsL X) 0 d = 0 from rfl, Int.add_zero, ← hz] at this
          exact this
      by_cases q : m < tot L W c (wG X d)
      · rw [if_pos q, m178 (by decide), if_pos rfl]
        exact nx 0 (by rw [decide_eq_false (by omega)]; rfl)
      · rw [if_neg q, m178 (by decide), if_neg (by decide)]
        exact nx 1 (by rw [decide_eq_true (by omega)]; rfl)
    | succ n ih =>
      intro a d N hr hN hd hl hQ
      have ht := tot_r (W := W) hw (X := wG X d) hH hd.2.2.1 hCs
      have hCN := hC.fr (frm35 (fun k a _ => hN k a))
      refine t_251_17 o204 ⟨by decide, ?_⟩
      rw [if_neg (by decide), m246 hd hCN]
      refine ⟨by omega, by omega, ?_⟩
      have hu : cntU (fun d => decide (tot L W c (wG X d) ≤ m)) (bsL X) (n + 1) d = match nxtL (bsL X) d with
        | none => 0
        | some e => b2i (decide (tot L W c (wG X e) ≤ m)) + cntU (fun d => decide (tot L W c (wG X d) ≤ m)) (bsL X) n e := rfl
      have nx : ∀ z : Int, z = b2i (decide (tot L W c (wG X d) ≤ m)) → WI 248 [vR 204] N (fun y9 M8 => WR 251 17 [some (vR 204), some (vI m), some (vI (a + z)), some (vI y9)] [] M8 (fun r M' => ∃ x, r = vI x ∧ Q x M')) := by
        intro z hz
        refine m248 hd hl (fun M' g => ?_)
        have gM : ∀ k : Int, k ≠ 235 → M' k = M k := fun k q => (g k q).trans (hN k q)
        show match nxtL (bsL X) d with
          | some e => MCut M' L W (wG X e) → _
          | none => _
        cases hn : nxtL (bsL X) d with
        | some e =>
          dsimp only
          intro hM'
          have hrk := (rk_nxt _ _ _ (VL_X (X := wG X d) hd.2.2.1 hl) hn).1
          have e2 : rkL (bsL (wG X d)) (Xd (wG X d)) = rkL (bsL X) d := rfl
          have e3 : rkL (bsL (wG X d)) e = rkL (bsL X) e := rfl
          have hel := nxt_len _ _ _ hn
          refine ih (a + z) e M' (by omega) gM hM' (by omega) (fun M2 g2 => ?_)
          have := hQ M2 g2
          rw [hu, hn, ← hz, ← Int.add_assoc] at this
          exact this
        | none =>
          refine t_251_17 o204 ⟨by decide, ?_⟩
          rw [if_pos rfl]
          refine ⟨a + z, rfl, ?_⟩
          have := hQ M' gM
          rw [hu, hn, ← hz, Int.add_zero] at this
          exact this
      by_cases q : m < tot L W c (wG X d)
      · rw [if_pos q, m178 (by decide), if_pos rfl]
        exact nx 0 (by rw [decide_eq_false (by omega)]; rfl)
      · rw [if_neg q, m178 (by decide), if_neg (by decide)]
        exact nx 1 (by rw [decide_eq_true (by omega)]; rfl)
  refine t_251 o204 ?_
  rw [h.2.2.2.1]
  refine ⟨by have := hH.1; omega, ?_⟩
  unfold upTo at hQ
  by_cases q0 : cnt X = 0
  · rw [if_pos q0]
    rw [if_pos q0] at hQ
    exact ⟨0, rfl, hQ M (fun _ _ => rfl)⟩
  · rw [if_neg q0]
    rw [if_neg q0] at hQ
    refine m247 h.1.1 (fun M' g hz => ?_)
    refine key 100000 0 (Z0 X) M' (rk_X hH) g (mZ0 h hx hG g hz) List.length_replicate (fun M2 g2 => ?_)
    rw [Int.zero_add]
    exact hQ M2 g2
theorem m238 {Q : Mem → Prop} (h : MCutH M L W X) (hx : Xc X = 0 ∧ Xw X = 0) (hG : GOk X) (hQ : ∀ M' : Mem, (∀ k : Int, k ≠ 235 → M' k = M k) → MCut M' L W (XP L W X) → Q M') : WV 238 [vR 204] M Q := by
  have hH := h.2.2.2.2.2.2.1
  have hc12 := hH.1
  have hw := h.1.2.2.2.2
  have hcl : cnt X = X.2.1.length := rfl
  have hon := h.2.2.2.2.2.1
  have key : ∀ (n : Nat) (j : Int) (l2 : Option AV) (N : Mem) (P : AV → Mem → Prop), 0 ≤ j → (j + n = cnt X - 1 ∨ (n = 0 ∧ cnt X ≤ 1 ∧ j = 0)) → (∀ k : Int, k ≠ 235 → N k = M k) → (∀ k : Int, 0 ≤ k → k < j → k + 1 < cnt X → N 235 k = plN L W X k) → (∀ v M', (∀ k : Int, k ≠ 235 → M' k = M k) → MCut M' L W (XP L W X) → P v M') → WR 238 2 [some (vR 204), some (vI j), l2] [] N P := by
    intro n
    induction n with
    | zero =>
      intro j l2 N P hj hn hN hk hP
      have hC := h.up (M' := N) (fun k a _ => hN k a)
      refine t_238_2 o204 ?_
      rw [hC.2.2.2.1]
      refine ⟨by omega, by omega, ?_⟩
      rw [if_pos (by omega)]
      refine hP _ _ hN ⟨hC, fun k a b => ?_, XP_g hH hG, hx.1, hx.2⟩
      replace b : k + 1 < cnt X := b
      rw [hk k a (by omega) b]
      show _ = gi (plD L W X) k
      unfold plD
      rw [gi_map a (by omega)]
    | succ n ih =>
      intro j l2 N P hj hn hN hk hP
      have hC := h.up (M' := N) (fun k a _ => hN k a)
      have hb := beh_r hH hj (show j < cnt X by omega)
      obtain ⟨e64, e65, -, e67, -⟩ := hC.p
      refine t_238_2 o204 ?_
      rw [hC.2.2.2.1, m230 hC hj (by omega), m179 (by decide) (by omega)]
      refine ⟨by omega, by omega, ?_⟩
      rw [if_neg (by omega)]
      have hst1 := hen_r hH (k := j + 1) (by omega) (by omega)
      have hen0 := hen_r hH (k := j) (by omega) (by omega)
      have hbe : beh X j = hst X (j + 1) - hen X j := by unfold beh; rw [if_pos (by omega)]
      have q1 := (hC.2.2.2.2.2.2.2 (j + 1) (by omega) (by omega)).1
      have done : ∀ s : Int, s = dn (legO L W (Xl X) (hst X (j + 1))) (min (beh X j) 4).toNat → WI 230 [vR 204, vI j] N (fun y5 M4 => (gA 20 (N 204 67) j) ∧ WR 238 2 [some (vR 204), some (vI (j + 1)), some (vI s)] [] (upM M4 (N 204 67) j (y5 - s)) P) := by
        intro s hs
        rw [m230 hC hj (by omega), e67]
        refine ⟨gC zC.2.2.2.1 hj (by show _ < ((12 : Nat) : Int); omega), ih (j + 1) _ _ P (by omega) (by omega) (fun k a => by rw [upM_o a]; exact hN k a) (fun k a b b2 => ?_) hP⟩
        by_cases e : k = j
        · rw [e, upM_s, hs]
          rfl
        · rw [upM_f e]
          exact hk k a (by omega) b2
      have inner : ∀ (m : Nat), (m : Int) ≤ beh X j → m ≤ 4 → dn (legO L W (Xl X) (hst X (j + 1))) m = dn (legO L W (Xl X) (hst X (j + 1))) (min (beh X j) 4).toNat → WR 238 22 [some (vR 204), some (vI j), some (vI m)] [] N P := by
        intro m
        induction m with
        | zero =>
          intro hm hm4 hd
          refine t_238_22 o204 ?_
          rw [e65, q1, e64]
          refine ⟨gC zC.2.1 (by omega) (by show _ < ((12 : Nat) : Int); omega), ?_⟩
          rw [show vI ((0 : Nat) : Int) = vI (([] : List Int).length : Int) from rfl, m235 (l := []) hC.1 hC.2.1 ⟨by rw [zC.1], by show 0 ≤ hst X (j + 1) - 0; omega, by rw [zC.1]; show hst X (j + 1) - 0 + 0 ≤ ((12 : Nat) : Int); omega⟩ (fun i a b => absurd b (by show ¬ i < 0; omega)) (fun s hs => by cases hs) (by decide) (by show hst X (j + 1) - 0 ≤ 10000; omega), kind_1 (by decide)]
          refine ⟨by decide, ?_⟩
          rw [if_neg (by decide)]
          exact done 0 hd
        | succ m ihm =>
          intro hm hm4 hd
          have hsl := sub_len (l := Xl X) (a := hst X (j + 1) - ((m + 1 : Nat) : Int)) (n := ((m + 1 : Nat) : Int)) (by omega) (by omega) (by show _ ≤ Xn X; omega)
          have hkr := kind_r L W (sub (Xl X) (hst X (j + 1) - ((m + 1 : Nat) : Int)) ((m + 1 : Nat) : Int))
          have hseg : SegIs N 232 (hst X (j + 1) - ((m + 1 : Nat) : Int)) (sub (Xl X) (hst X (j + 1) - ((m + 1 : Nat) : Int)) ((m + 1 : Nat) : Int)) := by
            have := hC.2.2.2.2.1.sub (b := hst X (j + 1) - ((m + 1 : Nat) : Int)) (n := ((m + 1 : Nat) : Int)) (by omega) (by omega) (by show _ ≤ Xn X; omega)
            rw [Int.zero_add] at this
            exact this
          refine t_238_22 o204 ?_
          rw [e65, q1, e64]
          refine ⟨gC zC.2.1 (by omega) (by show _ < ((12 : Nat) : Int); omega), ?_⟩
          have hcall : ∀ P2 : Int → Mem → Prop, WI 235 [vR 204, vR 232, vI (hst X (j + 1) - ((m + 1 : Nat) : Int)), vI ((m + 1 : Nat) : Int)] N P2 = P2 (kind L W (sub (Xl X) (hst X (j + 1) - ((m + 1 : Nat) : Int)) ((m + 1 : Nat) : Int))) N := by
            intro P2
            have := m235 (Q := P2) hC.1 hC.2.1 (a := 232) (o := hst X (j + 1) - ((m + 1 : Nat) : Int)) ⟨by rw [zC.1], by omega, by rw [zC.1, hsl]; show _ ≤ ((12 : Nat) : Int); omega⟩ hseg (sub_onl hon) (by omega) (by omega)
            rw [hsl] at this
            exact this
          rw [hcall]
          refine ⟨by omega, ?_⟩
          have ed : dn (legO L W (Xl X) (hst X (j + 1))) (m + 1) = if legO L W (Xl X) (hst X (j + 1)) ((m : Int) + 1) = true then (m : Int) + 1 else dn (legO L W (Xl X) (hst X (j + 1))) m := rfl
          have el : legO L W (Xl X) (hst X (j + 1)) ((m : Int) + 1) = decide (kind L W (sub (Xl X) (hst X (j + 1) - ((m + 1 : Nat) : Int)) ((m + 1 : Nat) : Int)) ≠ 0) := rfl
          rw [ed, el] at hd
          by_cases e : kind L W (sub (Xl X) (hst X (j + 1) - ((m + 1 : Nat) : Int)) ((m + 1 : Nat) : Int)) = 0
          · rw [if_pos e]
            rw [if_neg (by rw [decide_eq_false (fun q => q e)]; decide)] at hd
            rw [show ((m + 1 : Nat) : Int) + (-1) = m by omega]
            exact ihm (by omega) (by omega) hd
          · rw [if_neg e]
            rw [if_pos (decide_eq_true e)] at hd
            exact done _ hd
      have e4 : min 4 (beh X j) = ((min (beh X j) 4).toNat : Int) := by omega
      rw [e4]
      exact inner _ (by omega) (by omega) rfl
  exact t_238 o204 (key (cnt X - 1).toNat 0 _ M _ (by omega) (by have : 0 ≤ cnt X := Int.natCast_nonneg _; omega) (fun _ _ => rfl) (fun k a b => by omega) (fun _ M' a b => hQ M' a b))
end MG
