/-! THE MODEL'S CUTS, one after another. -/
def FrM (M M' : Mem) : Prop := (∀ k : Int, k < 232 ∨ (245 ≤ k ∧ k ≤ 249) ∨ 250 < k → k ≠ 204 → M' k = M k) ∧ ∀ j : Int, j ≠ 69 → j ≠ 70 → j ≠ 85 → j ≠ 86 → M' 204 j = M 204 j
theorem FrM.rf {M : Mem} : FrM M M := ⟨fun _ _ _ => rfl, fun _ _ _ _ _ => rfl⟩
theorem FrM.tr {M M1 M2 : Mem} (h : FrM M M1) (g : FrM M1 M2) : FrM M M2 := ⟨fun k a b => (g.1 k a b).trans (h.1 k a b), fun j a b c d => (g.2 j a b c d).trans (h.2 j a b c d)⟩
theorem mp_no : ∀ q ∈ mpT, q.1 ≠ 69 ∧ q.1 ≠ 70 ∧ q.1 ≠ 85 ∧ q.1 ≠ 86 := by decide
theorem PtrM.fr {M M' : Mem} (h : PtrM M) (g : FrM M M') : PtrM M' := fun q hq => by
  have := mp_no q hq
  rw [g.2 q.1 this.1 this.2.1 this.2.2.1 this.2.2.2]
  exact h q hq
theorem MLaw.fr {M M' : Mem} {L : Lw} (h : MLaw M L) (g : FrM M M') : MLaw M' L := by
  have f : ∀ j : Int, j ≠ 69 → j ≠ 70 → j ≠ 85 → j ≠ 86 → M' 204 j = M 204 j := g.2
  have e : ∀ k : Int, 218 ≤ k → k < 232 → M' k = M k := fun k a b => g.1 k (by omega) (by omega)
  refine ⟨h.1.fr g, ?_, ?_, ?_, h.2.2.2.2⟩
  · have := h.2.1
    unfold MSnd at this ⊢
    rw [f 38 (by decide) (by decide) (by decide) (by decide), e 218 (by decide) (by decide), e 219 (by decide) (by decide), e 220 (by decide) (by decide), e 221 (by decide) (by decide)]
    exact this
  · have := h.2.2.1
    unfold MTld SegIs at this ⊢
    rw [f 39 (by decide) (by decide) (by decide) (by decide), f 40 (by decide) (by decide) (by decide) (by decide), e 222 (by decide) (by decide), e 223 (by decide) (by decide), e 224 (by decide) (by decide)]
    exact this
  · have := h.2.2.2.1
    unfold MNum at this ⊢
    rw [f 41 (by decide) (by decide) (by decide) (by decide), f 42 (by decide) (by decide) (by decide) (by decide), f 43 (by decide) (by decide) (by decide) (by decide), f 44 (by decide) (by decide) (by decide) (by decide), f 45 (by decide) (by decide) (by decide) (by decide), f 46 (by decide) (by decide) (by decide) (by decide), f 47 (by decide) (by decide) (by decide) (by decide), e 225 (by decide) (by decide)]
    exact this
theorem MLrn.fr {M M' : Mem} {L : Lw} {W : List (List Int)} (h : MLrn M L W) (g : FrM M M') : MLrn M' L W := by
  unfold MLrn SegIs at h ⊢
  rw [g.1 230 (by decide) (by decide)]
  exact h
theorem MSpk.fr {M M' : Mem} {L : Lw} {S : List (List Int)} (h : MSpk M L S) (g : FrM M M') : MSpk M' L S := by
  unfold MSpk SegIs at h ⊢
  rw [g.1 226 (by decide) (by decide), g.1 227 (by decide) (by decide), g.2 56 (by decide) (by decide) (by decide) (by decide)]
  exact h
theorem MCost.fr {M M' : Mem} {c : Int → Int} (h : MCost M c) (g : FrM M M') : MCost M' c := by
  unfold MCost at h ⊢
  rw [g.1 230 (by decide) (by decide)]
  exact h
section MF
variable {M : Mem} {k : Int} {L : Lw} {W : List (List Int)} {X : Ct} {c : Int → Int}
theorem frm35 {M' : Mem} (g : ∀ k : Int, k ≠ 235 → k ≠ 236 → M' k = M k) : FrM M M' := ⟨fun k a b => g k (by omega) (by omega), fun j _ _ _ _ => by rw [g 204 (by decide) (by decide)]⟩
theorem MCutH.up {M' : Mem} (h : MCutH M L W X) (g : ∀ k : Int, k ≠ 235 → k ≠ 236 → M' k = M k) : MCutH M' L W X := by
  have hf := frm35 g
  refine ⟨h.1.fr hf, h.2.1.fr hf, by rw [g 204 (by decide) (by decide)]; exact h.2.2.1, by rw [g 204 (by decide) (by decide)]; exact h.2.2.2.1, ?_, h.2.2.2.2.2.1, h.2.2.2.2.2.2.1, ?_⟩
  · have := h.2.2.2.2.1
    unfold SegIs at this ⊢
    rw [g 232 (by decide) (by decide)]
    exact this
  · rw [g 233 (by decide) (by decide), g 234 (by decide) (by decide)]
    exact h.2.2.2.2.2.2.2
theorem m247 {Q : Mem → Prop} (hp : PtrM M) (hQ : ∀ M' : Mem, (∀ k : Int, k ≠ 235 → M' k = M k) → (∀ j : Int, 0 ≤ j → j < 12 → M' 235 j = 0) → Q M') : WV 247 [vR 204] M Q := by
  have key : ∀ (n : Nat) (j : Int) (N : Mem) (P : AV → Mem → Prop), 0 ≤ j → j + n = 12 → (∀ k : Int, k ≠ 235 → N k = M k) → (∀ i : Int, 0 ≤ i → i < j → N 235 i = 0) → (∀ r N', (∀ k : Int, k ≠ 235 → N' k = M k) → (∀ j : Int, 0 ≤ j → j < 12 → N' 235 j = 0) → P r N') → WR 247 2 [some (vR 204), some (vI j)] [] N P := by
    intro n
    induction n with
    | zero =>
      intro j N P hj hn hN hk hP
      refine t_247_2 o204 ⟨by omega, ?_⟩
      rw [if_pos (by omega)]
      exact hP _ _ hN (fun i a b => hk i a (by omega))
    | succ n ih =>
      intro j N P hj hn hN hk hP
      have e67 : N 204 67 = 235 := by rw [hN 204 (by decide)]; exact hp.at (by decide)
      refine t_247_2 o204 ⟨by omega, ?_⟩
      rw [if_neg (by omega), e67]
      refine ⟨gC zC.2.2.2.1 hj (by show _ < ((12 : Nat) : Int); omega), ih (j + 1) _ P (by omega) (by omega) (fun k a => by rw [upM_o a]; exact hN k a) (fun i a b => ?_) hP⟩
      by_cases e : i = j
      · rw [e, upM_s]
      · rw [upM_f e]
        exact hk i a (by omega)
  exact t_247 o204 (key 12 0 M _ (by omega) (by omega) (fun _ _ => rfl) (fun i a b => by omega) (fun _ N' a b => hQ N' a b))
/-- the model's cut with other gaps -/
theorem mZ0 {M' : Mem} (h : MCutH M L W X) (hx : Xc X = 0 ∧ Xw X = 0) (hG : GOk X) (g : ∀ k : Int, k ≠ 235 → M' k = M k) (hz : ∀ j : Int, 0 ≤ j → j < 12 → M' 235 j = 0) : MCut M' L W (wG X (Z0 X)) := by
  have hH := h.2.2.2.2.2.2.1
  have hc := hH.1
  have hcl : cnt X = X.2.1.length := rfl
  refine ⟨h.up (fun k a _ => g k a), fun k a b => ?_, Z0_g hH hG, hx.1, hx.2⟩
  replace b : k + 1 < cnt X := b
  rw [hz k a (by omega)]
  show 0 = gi (Z0 X) k
  unfold Z0
  rw [gi_rep a (by omega)]
theorem m248 {Q : Int → Mem → Prop} (h : MCut M L W X) (hg : GLen X) (hQ : ∀ M' : Mem, (∀ k : Int, k ≠ 235 → M' k = M k) → match nxtL (bsL X) (Xd X) with
    | some e => MCut M' L W (wG X e) → Q 1 M'
    | none => Q 0 M') : WI 248 [vR 204] M Q := by
  have hH := h.1.2.2.2.2.2.2.1
  have hc12 := hH.1
  have hc0 : 0 ≤ cnt X := Int.natCast_nonneg _
  have hcl : cnt X = X.2.1.length := rfl
  have hbl := bsL_len X
  unfold GLen at hg
  have key : ∀ (n : Nat) (j : Int) (N : Mem), n ≤ X.2.1.length - 1 → (0 < n → j = (n : Int) - 1) → (n = 0 → j < 0 ∧ inR j) → (∀ k : Int, k ≠ 235 → N k = M k) → (∀ k : Int, 0 ≤ k → k < n → N 235 k = Xg X k) → (∀ k : Int, n ≤ k → k + 1 < cnt X → N 235 k = 0) → nxtL ((bsL X).drop n) ((Xd X).drop n) = none → WR 248 7 [some (vR 204), some (vI j)] [] N (fun r M' => ∃ x, r = vI x ∧ Q x M') := by
    intro n
    induction n with
    | zero =>
      intro j N hn hj hj0 hN hk hz hnx
      obtain ⟨a, b⟩ := hj0 rfl
      refine t_248_7 o204 ⟨b, ?_⟩
      rw [if_pos a]
      rw [List.drop_zero, List.drop_zero] at hnx
      have := hQ N hN
      rw [hnx] at this
      exact ⟨0, rfl, this⟩
    | succ n ih =>
      intro j N hn hj hj0 hN hk hz hnx
      have hj := hj (by omega)
      have hjn : j = (n : Int) := by omega
      subst hjn
      have hC := h.1.up (M' := N) (fun k a _ => hN k a)
      have e67 := hC.p.2.2.2.1
      have hb := beh_r hH (k := (n : Int)) (by omega) (by omega)
      have hgn := h.2.2.1.1 (n : Int) (by omega) (by omega)
      have hg12 : gA 20 235 (n : Int) := gC zC.2.2.2.1 (by omega) (by show _ < ((12 : Nat) : Int); omega)
      refine t_248_7 o204 ⟨by omega, ?_⟩
      rw [if_neg (by omega), e67, m230 hC (by omega) (by omega), hk n (by omega) (by omega), e67]
      refine ⟨hg12, by omega, by omega, ?_⟩
      have eb : (bsL X).drop n = beh X n :: (bsL X).drop (n + 1) := by
        rw [drop_cons (by omega), bsL_gi (by omega) (by omega)]
      have ed : (Xd X).drop n = Xg X n :: (Xd X).drop (n + 1) := drop_cons (show n < X.2.2.1.length by omega)
      by_cases hlt : beh X n ≤ Xg X n
      · rw [if_pos hlt]
        refine ⟨hg12, ih (n + (-1)) _ (by omega) (by omega) (by omega) (fun k a => by rw [upM_o a]; exact hN k a) (fun k a b => ?_) (fun k a b => ?_) ?_⟩
        · rw [upM_f (by omega)]
          exact hk k a (by omega)
        · by_cases e : k = n
          · rw [e, upM_s]
          · rw [upM_f e]
            exact hz k (by omega) b
        · rw [eb, ed]
          exact nxtL_no hnx (by omega)
      · rw [if_neg hlt, hk n (by omega) (by omega)]
        refine ⟨hg12, hg12, ?_⟩
        have hne : nxtL (bsL X) (Xd X) = some ((Xd X).take n ++ (Xg X n + 1) :: List.replicate ((Xd X).drop (n + 1)).length 0) := by
          have := nxtL_yes hnx (show Xg X n < beh X n by omega) ((bsL X).take n) ((Xd X).take n) (by rw [List.length_take, List.length_take, hbl, show (Xd X).length = _ from hg])
          rw [← eb, ← ed, List.take_append_drop, List.take_append_drop] at this
          exact this
        have := hQ (upM N 235 n (Xg X n + 1)) (fun k a => by rw [upM_o a]; exact hN k a)
        rw [hne] at this
        have hdl : (Xd X).length = X.2.1.length - 1 := hg
        have htl : ((Xd X).take n).length = n := by rw [List.length_take]; omega
        have hrl : ((Xd X).drop (n + 1)).length = X.2.1.length - 1 - (n + 1) := by rw [List.length_drop, hdl]
        have hv : ∀ k : Int, 0 ≤ k → k + 1 < cnt X → gi ((Xd X).take n ++ (Xg X n + 1) :: List.replicate ((Xd X).drop (n + 1)).length 0) k = if k < n then Xg X k else if k = n then Xg X n + 1 else 0 := by
          intro k a b
          rw [gi_app a, htl]
          by_cases e1 : k < n
          · rw [if_pos e1, if_pos e1, gi_take a e1]
            rfl
          · rw [if_neg e1, if_neg e1]
            by_cases e2 : k = n
            · rw [if_pos e2, e2, Int.sub_self]
              rfl
            · rw [if_neg e2, gi_consS (by omega), gi_rep (by omega) (by omega)]
        refine ⟨1, rfl, this ⟨hC.up (fun k a _ => upM_o a), fun k a b => ?_, wG_g h.2.2.1 (fun k a b => ?_), h.2.2.2.1, h.2.2.2.2⟩⟩
        · replace b : k + 1 < cnt X := b
          show _ = gi ((Xd X).take n ++ (Xg X n + 1) :: List.replicate ((Xd X).drop (n + 1)).length 0) k
          rw [hv k a b]
          by_cases e1 : k < n
          · rw [if_pos e1, upM_f (by omega), hk k a (by omega)]
          · rw [if_neg e1]
            by_cases e2 : k = n
            · rw [if_pos e2, e2, upM_s]
            · rw [if_neg e2, upM_f e2, hz k (by omega) b]
        · rw [hv k a b]
          have hbk := beh_r hH a (by omega)
          have hgk := h.2.2.1.1 k a b
          by_cases e1 : k < n
          · rw [if_pos e1]; exact hgk
          · rw [if_neg e1]
            by_cases e2 : k = n
            · rw [if_pos e2, e2]; omega
            · rw [if_neg e2]; omega
  refine t_248 o204 ?_
  rw [h.1.2.2.2.1]
  refine key (X.2.1.length - 1) (cnt X - 2) M (Nat.le_refl _) (by omega) (by omega) (fun _ _ => rfl) (fun k a b => ?_) (fun k a b => by omega) ?_
  · exact h.2.1 k a (by omega)
  · rw [List.drop_eq_nil_of_le (show (bsL X).length ≤ X.2.1.length - 1 by omega)]
    rw [nxtL]
    intros; contradiction
end MF
