/-! THE MODEL'S CUT, part two: costs, which is stressed, all cuts. -/
section MD
variable {M : Mem} {k : Int} {L : Lw} {W : List (List Int)} {X : Ct} {c : Int → Int}
theorem onl_dg {l : List Int} (hw : Wf L) (h : onl L l) : dg l := fun s hs => by
  have := h s hs
  have := hw.1.1
  omega
theorem okl_0 (h0 : Xc X = 0) : okl X k = sub (Xl X) (ofr X k) (osz X k) := by
  unfold okl
  rw [if_neg (by omega)]
theorem sub_onl {l : List Int} {a n : Int} (h : onl L l) : onl L (sub l a n) := fun s hs => h s (sub_mem hs)
theorem mCK {Q : Int → Mem → Prop} (h : MCut M L W X) (h0 : 0 ≤ k) (h1 : k < cnt X) : WI 235 [vR 204, vR 232, vI (ofr X k), vI (osz X k)] M Q = Q (kind L W (okl X k)) M := by
  have hH := h.1.2.2.2.2.2.2.1
  have hw := h.1.1.2.2.2.2
  have hok := okl_ok hH h.2.2.1 (onl_dg hw h.1.2.2.2.2.2.1) h0 h1
  have hoz : osz X k = hst X k - ofr X k := rfl
  have hh := hen_r hH h0 h1
  rcases ofr_r hH h.2.2.1 h0 h1 with q | q
  · have := h.2.2.2.1; omega
  rw [okl_0 h.2.2.2.1] at hok ⊢
  rw [show vI (osz X k) = vI ((sub (Xl X) (ofr X k) (osz X k)).length : Int) by rw [hok.2.2]]
  refine m235 h.1.1 h.1.2.1 ⟨by rw [zC.1], q.2.1, ?_⟩ ?_ (sub_onl h.1.2.2.2.2.2.1) hok.2.1 (by omega)
  · rw [zC.1]; show _ ≤ ((12 : Nat) : Int); omega
  · have := h.1.2.2.2.2.1.sub (b := ofr X k) (n := osz X k) q.2.1 (by omega) (by show _ ≤ Xn X; omega)
    rw [Int.zero_add] at this
    exact this
theorem mCC {Q : Int → Mem → Prop} (h : MCut M L W X) (h0 : 0 ≤ k) (h1 : k < cnt X) : WI 236 [vR 204, vR 232, vI (hen X k), vI (csz X k)] M Q = Q (b2i (closes L (ckl X k))) M := by
  have hH := h.1.2.2.2.2.2.2.1
  have hw := h.1.1.2.2.2.2
  have hck := ckl_ok hH h.2.2.1 (onl_dg hw h.1.2.2.2.2.2.1) h0 h1
  have hh := hen_r hH h0 h1
  have hb := beh_r hH h0 h1
  have hc := cls_r hH h.2.2.1 h0 h1
  have hd := csz_r hH h.2.2.1 h0 h1
  unfold ckl at hck ⊢
  rw [show vI (csz X k) = vI ((sub (Xl X) (hen X k) (csz X k)).length : Int) by rw [hck.2.2]]
  refine m236 h.1.1 ⟨by rw [zC.1], by omega, ?_⟩ ?_ (sub_onl h.1.2.2.2.2.2.1) hck.2.1 (by omega)
  · rw [zC.1]; show _ ≤ ((12 : Nat) : Int); omega
  · have := h.1.2.2.2.2.1.sub (b := hen X k) (n := csz X k) (by omega) (by omega) (by show _ ≤ Xn X; omega)
    rw [Int.zero_add] at this
    exact this
theorem m245 {Q : Int → Mem → Prop} (h : MCut M L W X) (hC : MCost M c) (h0 : 0 ≤ k) (h1 : k < cnt X) : WI 245 [vR 204, vI k] M Q = Q (cst L W c X k) M := by
  have hH := h.1.2.2.2.2.2.2.1
  have hw := h.1.1.2.2.2.2
  have hh := hen_r hH h0 h1
  have hok := okl_ok hH h.2.2.1 (onl_dg hw h.1.2.2.2.2.2.1) h0 h1
  have hkr := kind_r L W (okl X k)
  have e64 := h.1.p.1
  refine FN.wi (WC.fn (t_245 o204 ?_))
  rw [m240 h h0 h1, m239 h h0 h1, m240 h h0 h1, e64, mCK h h0 h1, m241 h h0 h1, m229 h.1 h0 h1, m241 h h0 h1, e64, mCC h h0 h1, m244 h.1.1.1 hC (by omega) (by omega) (by have := b2i_r (closes L (ckl X k)); omega)]
  have e : ∀ t : Int, t = (if 0 < k ∧ hvy L X (k - 1) = true ∧ hvy L X k = true then c 5 else 0) → cstBy c (osz X k) (kind L W (okl X k)) (csz X k) (b2i (closes L (ckl X k))) + t = cst L W c X k := by
    intro t ht
    rw [cst_eq hok.2.2, ht]
    rfl
  refine ⟨by omega, ?_⟩
  by_cases q : k ≤ 0
  · rw [if_pos q, e 0 (by rw [if_neg (by omega)])]
    exact ⟨rfl, rfl⟩
  · rw [if_neg q, m243 h (by omega) (by omega)]
    refine ⟨by have := b2i_r (hvy L X (k - 1)); omega, ?_⟩
    cases hv : hvy L X (k - 1)
    · rw [if_pos (by decide), e 0 (by rw [hv, if_neg (fun z => absurd z.2.1 (by decide))])]
      exact ⟨rfl, rfl⟩
    · rw [if_neg (by decide), m243 h h0 h1]
      refine ⟨by have := b2i_r (hvy L X k); omega, ?_⟩
      cases hv2 : hvy L X k
      · rw [if_pos (by decide), e 0 (by rw [hv2, if_neg (fun z => absurd z.2.2 (by decide))])]
        exact ⟨rfl, rfl⟩
      · rw [if_neg (by decide), m218 h.1.1.1 hC (by decide) (by decide), e (c 5) (by rw [hv, hv2, if_pos ⟨by omega, rfl, rfl⟩])]
        exact ⟨rfl, rfl⟩
theorem m246 {Q : Int → Mem → Prop} (h : MCut M L W X) (hC : MCost M c) : WI 246 [vR 204] M Q = Q (tot L W c X) M := by
  have e70 := h.1.2.2.2.1
  have hc := h.1.2.2.2.2.2.2.1.1
  have key : ∀ (n : Nat) (j a : Int) (P : AV → Mem → Prop), 0 ≤ j → j + n = cnt X → P (vI (a + smF (cst L W c X) j n)) M → WR 246 4 [some (vR 204), some (vI a), some (vI j)] [] M P := by
    intro n
    induction n with
    | zero =>
      intro j a P hj hn hP
      refine t_246_4 o204 ?_
      rw [e70]
      refine ⟨by omega, by omega, ?_⟩
      rw [if_pos (by omega)]
      rw [show smF (cst L W c X) j 0 = 0 from rfl, Int.add_zero] at hP
      exact hP
    | succ n ih =>
      intro j a P hj hn hP
      refine t_246_4 o204 ?_
      rw [e70, m245 h hC hj (by omega)]
      refine ⟨by omega, by omega, ?_⟩
      rw [if_neg (by omega)]
      rw [show smF (cst L W c X) j (n + 1) = cst L W c X j + smF (cst L W c X) (j + 1) n from rfl, ← Int.add_assoc] at hP
      exact ih (j + 1) _ P (by omega) (by omega) hP
  refine FN.wi (WC.fn (t_246 o204 (key X.2.1.length 0 0 _ (by omega) (by unfold cnt; omega) ⟨?_, rfl⟩)))
  rw [Int.zero_add]
  rfl
theorem m178 {Q : Int → Mem → Prop} {x : Int} (h : inR x) : WI 178 [vI x] M Q = Q (if x = 0 then 0 else 1) M := by
  refine FN.wi (WC.fn (t_178 ⟨h, ?_⟩))
  split
  · exact ⟨rfl, rfl⟩
  · exact ⟨rfl, rfl⟩
theorem m179 {Q : Int → Mem → Prop} {x y : Int} (h : inR x) (g : inR y) : WI 179 [vI x, vI y] M Q = Q (min x y) M := by
  refine FN.wi (WC.fn (t_179 ⟨h, g, ?_⟩))
  split
  · exact ⟨by rw [show min x y = y by omega], rfl⟩
  · exact ⟨by rw [show min x y = x by omega], rfl⟩
theorem m180 {Q : Int → Mem → Prop} {x y : Int} (h : inR x) (g : inR y) : WI 180 [vI x, vI y] M Q = Q (max x y) M := by
  refine FN.wi (WC.fn (t_180 ⟨h, g, ?_⟩))
  split
  · exact ⟨by rw [show max x y = y by omega], rfl⟩
  · exact ⟨by rw [show max x y = x by omega], rfl⟩
theorem m177 {Q : Int → Mem → Prop} {x y z : Int} (hx : in64 x) (hy : in64 y) (hz : in64 z) : WI 177 [vL x, vL y, vL z] M Q = Q (b2i (decide (y ≤ x ∧ x ≤ z))) M := by
  refine FN.wi (WC.fn (t_177 ⟨⟨hx, hy⟩, cmp3_r _ _, ?_⟩))
  by_cases q : x < y
  · rw [if_pos (by rw [if_pos q]; decide), decide_eq_false (by omega)]
    exact ⟨rfl, rfl⟩
  · have e : ¬ (if x < y then (-1 : Int) else if x = y then 0 else 1) < 0 := by
      rw [if_neg q]
      split <;> decide
    rw [if_neg e]
    refine ⟨⟨hx, hz⟩, cmp3_r _ _, ?_⟩
    by_cases q2 : x ≤ z
    · have e2 : ¬ 0 < (if x < z then (-1 : Int) else if x = z then 0 else 1) := by
        by_cases q3 : x < z
        · rw [if_pos q3]; decide
        · rw [if_neg q3, if_pos (by omega)]; decide
      rw [if_neg e2, decide_eq_true ⟨by omega, q2⟩]
      exact ⟨rfl, rfl⟩
    · rw [if_pos (by rw [if_neg (by omega), if_neg (by omega)]; decide), decide_eq_false (by omega)]
      exact ⟨rfl, rfl⟩
/-- the latest found so far, going up -/
theorem lst_up (P : Int → Bool) (lo : Int) (m : Nat) : lst P lo (m + 1) = if P (lo + m) = true then lo + m else lst P lo m := rfl
theorem m252 {Q : Int → Mem → Prop} (h : MCut M L W X) (hp : 0 < cnt X) : WI 252 [vR 204] M Q = Q (strs L X) M := by
  have e70 := h.1.2.2.2.1
  have hc := h.1.2.2.2.2.2.2.1.1
  obtain ⟨-, -, -, -, -, e46, e47, -⟩ := h.1.1.2.2.2.1
  have hz := h.1.1.2.2.2.2.2.2
  unfold WfZ at hz
  have hlo : max 0 (cnt X - Lz L 8) = strLo L X := by unfold strLo; omega
  have hlo2 : 0 ≤ strLo L X ∧ strLo L X ≤ cnt X := by unfold strLo; omega
  have fin : ∀ (x : Int) (P : AV → Mem → Prop), -1 ≤ x → x ≤ 12 → P (vI (if x = -1 then (if cnt X = 0 then -1 else max 0 (cnt X - Lz L 7)) else x)) M → inR x ∧ (if x = -1 then WI 180 [vI 0, vI (M 204 70 - M 204 46)] M (fun y5 M4 => P (vI y5) M4) else P (vI x) M) := by
    intro x P a b hP
    refine ⟨by omega, ?_⟩
    by_cases q : x = -1
    · rw [if_pos q, if_neg (by omega)] at hP
      rw [if_pos q, e70, e46, m180 (by decide) (by omega)]
      exact hP
    · rw [if_neg q] at hP ⊢
      exact hP
  have lr : ∀ m : Nat, strLo L X + m ≤ 12 → -1 ≤ lst (hvy L X) (strLo L X) m ∧ lst (hvy L X) (strLo L X) m ≤ 12 := by
    intro m
    induction m with
    | zero => intro _; exact ⟨(show (-1 : Int) ≤ -1 by decide), (show (-1 : Int) ≤ 12 by decide)⟩
    | succ m ih =>
      intro hm
      have := ih (by omega)
      rw [lst_up]
      split <;> omega
  have key : ∀ (n m : Nat) (P : AV → Mem → Prop), (strLo L X + m + n = cnt X - 1 ∨ (n = 0 ∧ cnt X - 1 ≤ strLo L X ∧ m = 0)) → P (vI (strs L X)) M → WR 252 16 [some (vR 204), some (vI (lst (hvy L X) (strLo L X) m)), some (vI (strLo L X + m))] [] M P := by
    intro n
    induction n with
    | zero =>
      intro m P hm hP
      have hl := lr m (by omega)
      refine t_252_16 o204 ?_
      refine ⟨by omega, by rw [e70]; omega, ?_⟩
      rw [show M 204 70 - 1 = cnt X - 1 by rw [e70], if_pos (by omega)]
      refine fin _ P hl.1 hl.2 ?_
      have em : (cnt X - 1 - strLo L X).toNat = m := by omega
      unfold strs at hP
      rw [em] at hP
      exact hP
    | succ n ih =>
      intro m P hm hP
      refine t_252_16 o204 ?_
      refine ⟨by omega, by rw [e70]; omega, ?_⟩
      rw [show M 204 70 - 1 = cnt X - 1 by rw [e70], if_neg (by omega), m243 h (by omega) (by omega)]
      refine ⟨by have := b2i_r (hvy L X (strLo L X + m)); omega, ?_⟩
      have := ih (m + 1) P (by omega) hP
      rw [lst_up, show strLo L X + ((m + 1 : Nat) : Int) = strLo L X + m + 1 by omega] at this
      cases hv : hvy L X (strLo L X + m)
      · rw [hv, if_neg (show ¬ false = true by decide)] at this
        rw [if_pos (by decide)]
        exact this
      · rw [hv, if_pos rfl] at this
        rw [if_neg (by decide)]
        exact this
  refine FN.wi (WC.fn (t_252 o204 ?_))
  rw [e70, e47, m180 (by decide) (by omega), hlo]
  have := key (cnt X - 1 - strLo L X).toNat 0 (fun r N => r = vI (strs L X) ∧ N = M) (by omega) ⟨rfl, rfl⟩
  rw [show strLo L X + ((0 : Nat) : Int) = strLo L X by omega] at this
  exact this
theorem m249 {Q : Int → Mem → Prop} (h : MCutH M L W X) : WI 249 [vR 204] M Q = Q (waysX X) M := by
  have e70 := h.2.2.2.1
  have hc := h.2.2.2.2.2.2.1.1
  have hcl : cnt X = X.2.1.length := rfl
  have key : ∀ (n : Nat) (j a : Int) (P : AV → Mem → Prop), 0 ≤ j → (j + n = cnt X - 1 ∨ (n = 0 ∧ j = 0 ∧ cnt X = 0)) → P (vI (waysF X j n a)) M → WR 249 18 [some (vR 204), some (vI a), some (vI j)] [] M P := by
    intro n
    induction n with
    | zero =>
      intro j a P hj hn hP
      refine t_249_18 o204 ?_
      rw [e70]
      refine ⟨by omega, by omega, ?_⟩
      rw [if_pos (by omega)]
      exact hP
    | succ n ih =>
      intro j a P hj hn hP
      refine t_249_18 o204 ?_
      rw [e70, m230 h hj (by omega)]
      refine ⟨by omega, by omega, ?_⟩
      rw [if_neg (by omega)]
      exact ih (j + 1) _ P (by omega) (by omega) hP
  refine FN.wi (WC.fn (t_249 o204 ?_))
  unfold waysX
  rw [e70]
  refine ⟨by omega, ?_⟩
  by_cases q : cnt X = 0
  · rw [if_pos (by omega), m178 (by decide), if_pos rfl, if_pos q]
    exact key _ 0 0 _ (by omega) (by omega) ⟨rfl, rfl⟩
  · rw [if_neg (by omega), m178 (by decide), if_neg (by decide), if_neg q]
    exact key _ 0 1 _ (by omega) (by omega) ⟨rfl, rfl⟩
end MD
