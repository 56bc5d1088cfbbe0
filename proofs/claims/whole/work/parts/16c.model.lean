/-! THE MODEL'S CUT: what it tells of one. -/
def MCutH (M : Mem) (L : Lw) (W : List (List Int)) (X : Ct) : Prop := MLaw M L ∧ MLrn M L W ∧ M 204 69 = Xn X ∧ M 204 70 = cnt X ∧ SegIs M 232 0 (Xl X) ∧ onl L (Xl X) ∧ HOk X ∧ (∀ k : Int, 0 ≤ k → k < cnt X → M 233 k = hst X k ∧ M 234 k = hsz X k)
def MCut (M : Mem) (L : Lw) (W : List (List Int)) (X : Ct) : Prop := MCutH M L W X ∧ (∀ k : Int, 0 ≤ k → k + 1 < cnt X → M 235 k = Xg X k) ∧ GOk X ∧ Xc X = 0 ∧ Xw X = 0
def MCost (M : Mem) (c : Int → Int) : Prop := ∀ i : Int, 0 ≤ i → i < 6 → M 230 (261 + i) = c i ∧ 0 ≤ c i ∧ c i ≤ 999
theorem gi_sub {l : List Int} {a n j : Int} (h0 : 0 ≤ a) (h1 : 0 ≤ j) (h2 : j < n) (h3 : a + n ≤ l.length) : gi (sub l a n) j = gi l (a + j) := by
  obtain ⟨A, rfl⟩ := Int.eq_ofNat_of_zero_le h0
  obtain ⟨J, rfl⟩ := Int.eq_ofNat_of_zero_le h1
  unfold sub
  rw [show (A : Int) + (J : Int) = ((A + J : Nat) : Int) by omega, gi_nat, gi_nat, List.getD_eq_getElem?_getD, List.getD_eq_getElem?_getD, List.getElem?_take, if_pos (by omega), List.getElem?_drop, Int.toNat_natCast]
theorem SegIs.sub {M : Mem} {a o b n : Int} {l : List Int} (h : SegIs M a o l) (h0 : 0 ≤ b) (h1 : 0 ≤ n) (h2 : b + n ≤ l.length) : SegIs M a (o + b) (sub l b n) := by
  intro j q0 q1
  rw [sub_len h0 h1 h2] at q1
  rw [gi_sub h0 q0 q1 h2, Int.add_assoc]
  exact h (b + j) (by omega) (by omega)
section MC
variable {M : Mem} {k : Int} {L : Lw} {W : List (List Int)} {X : Ct} {c : Int → Int}
theorem zC : shA SH 232 = (20, 12) ∧ shA SH 233 = (20, 12) ∧ shA SH 234 = (20, 12) ∧ shA SH 235 = (20, 12) ∧ shA SH 236 = (20, 12) ∧ shA SH 225 = (20, 4) := by decide +kernel
theorem gC {a : Int} {n : Nat} (hz : shA SH a = (20, n)) (h0 : 0 ≤ k) (h1 : k < n) : gA 20 a k := ⟨by rw [hz], h0, by rw [hz]; exact h1⟩
theorem MCutH.p (h : MCutH M L W X) : M 204 64 = 232 ∧ M 204 65 = 233 ∧ M 204 66 = 234 ∧ M 204 67 = 235 ∧ M 204 68 = 236 ∧ M 204 55 = 225 ∧ M 204 61 = 230 := ⟨h.1.1.at (by decide), h.1.1.at (by decide), h.1.1.at (by decide), h.1.1.at (by decide), h.1.1.at (by decide), h.1.1.at (by decide), h.1.1.at (by decide)⟩
theorem m229 {Q : Int → Mem → Prop} (h : MCutH M L W X) (h0 : 0 ≤ k) (h1 : k < cnt X) : WI 229 [vR 204, vI k] M Q = Q (hen X k) M := by
  have h12 := h.2.2.2.2.2.2.1.1
  obtain ⟨-, e65, e66, -⟩ := h.p
  obtain ⟨q1, q2⟩ := h.2.2.2.2.2.2.2 k h0 h1
  refine FN.wi (WC.fn (t_229 o204 ?_))
  rw [e65, e66, q1, q2]
  exact ⟨gC zC.2.1 h0 (by show _ < ((12 : Nat) : Int); omega), gC zC.2.2.1 h0 (by show _ < ((12 : Nat) : Int); omega), rfl, rfl⟩
theorem m230 {Q : Int → Mem → Prop} (h : MCutH M L W X) (h0 : 0 ≤ k) (h1 : k + 1 < cnt X) : WI 230 [vR 204, vI k] M Q = Q (beh X k) M := by
  have h12 := h.2.2.2.2.2.2.1.1
  obtain ⟨-, e65, -⟩ := h.p
  refine FN.wi (WC.fn (t_230 o204 ?_))
  rw [e65, m229 h h0 (by omega), (h.2.2.2.2.2.2.2 (k + 1) (by omega) h1).1]
  unfold beh
  rw [if_pos h1]
  exact ⟨gC zC.2.1 (by omega) (by show _ < ((12 : Nat) : Int); omega), rfl, rfl⟩
theorem m239 {Q : Int → Mem → Prop} (h : MCut M L W X) (h0 : 0 ≤ k) (h1 : k < cnt X) : WI 239 [vR 204, vI k] M Q = Q (ofr X k) M := by
  have h12 := h.1.2.2.2.2.2.2.1.1
  obtain ⟨-, -, -, e67, -⟩ := h.1.p
  refine FN.wi (WC.fn (t_239 o204 ?_))
  unfold ofr
  refine ⟨by omega, ?_⟩
  by_cases q : k = 0
  · rw [if_pos q, if_pos q, h.2.2.2.1]
    exact ⟨rfl, rfl⟩
  · rw [if_neg q, if_neg q, m229 h.1 (by omega) (by omega), e67, h.2.1 (k - 1) (by omega) (by omega)]
    unfold cls
    rw [if_neg (by omega)]
    exact ⟨gC zC.2.2.2.1 (by omega) (by show _ < ((12 : Nat) : Int); omega), rfl, rfl⟩
theorem m240 {Q : Int → Mem → Prop} (h : MCut M L W X) (h0 : 0 ≤ k) (h1 : k < cnt X) : WI 240 [vR 204, vI k] M Q = Q (osz X k) M := by
  have h12 := h.1.2.2.2.2.2.2.1.1
  obtain ⟨-, e65, -⟩ := h.1.p
  refine FN.wi (WC.fn (t_240 o204 ?_))
  rw [e65, m239 h h0 h1, (h.1.2.2.2.2.2.2.2 k h0 h1).1]
  exact ⟨gC zC.2.1 (by omega) (by show _ < ((12 : Nat) : Int); omega), rfl, rfl⟩
theorem m241 {Q : Int → Mem → Prop} (h : MCut M L W X) (h0 : 0 ≤ k) (h1 : k < cnt X) : WI 241 [vR 204, vI k] M Q = Q (csz X k) M := by
  have h12 := h.1.2.2.2.2.2.2.1.1
  obtain ⟨-, -, -, e67, -⟩ := h.1.p
  refine FN.wi (WC.fn (t_241 o204 ?_))
  rw [h.1.2.2.2.1]
  unfold csz cls
  rw [h.2.2.2.2]
  refine ⟨by omega, by omega, ?_⟩
  by_cases q : k = cnt X - 1
  · rw [if_pos q, m229 h.1 h0 h1, h.1.2.2.1, if_pos (by omega), if_pos (by omega)]
    unfold beh
    rw [if_neg (by omega), Int.sub_zero]
    exact ⟨rfl, rfl⟩
  · rw [if_neg q, e67, h.2.1 k h0 (by omega), if_neg (by omega), if_neg (by omega), Int.sub_zero]
    exact ⟨gC zC.2.2.2.1 (by omega) (by show _ < ((12 : Nat) : Int); omega), rfl, rfl⟩
theorem m242 {Q : Int → Mem → Prop} (h : MCut M L W X) (h0 : 0 ≤ k) (h1 : k < cnt X) : WI 242 [vR 204, vI k] M Q = Q (wgt L X k) M := by
  have h12 := h.1.2.2.2.2.2.2.1.1
  have hs := (h.1.2.2.2.2.2.2.1.2.2 k h0 h1).2.1
  obtain ⟨-, -, e66, -, -, e55, -⟩ := h.1.p
  obtain ⟨-, -, -, -, -, -, -, w0, w1, w2, -⟩ := h.1.1.2.2.2.1
  refine FN.wi (WC.fn (t_242 o204 ?_))
  rw [e66, e55, (h.1.2.2.2.2.2.2.2 k h0 h1).2, m241 h h0 h1, w2]
  refine ⟨gC zC.2.2.1 (by omega) (by show _ < ((12 : Nat) : Int); omega), gC zC.2.2.2.2.2 (by omega) (by show _ < ((4 : Nat) : Int); omega), gC zC.2.2.2.2.2 (by omega) (by show _ < ((4 : Nat) : Int); omega), ?_⟩
  unfold wgt
  rcases hs with q | q
  · rw [q, if_neg (by decide), show (1 : Int) - 1 = 0 from rfl, w0, Int.mul_comm]
    exact ⟨rfl, rfl⟩
  · rw [q, if_pos rfl, show (2 : Int) - 1 = 1 from rfl, w1, Int.mul_comm]
    exact ⟨rfl, rfl⟩
theorem m243 {Q : Int → Mem → Prop} (h : MCut M L W X) (h0 : 0 ≤ k) (h1 : k < cnt X) : WI 243 [vR 204, vI k] M Q = Q (b2i (hvy L X k)) M := by
  obtain ⟨-, -, -, -, -, e55, -⟩ := h.1.p
  have w3 := h.1.1.2.2.2.1.2.2.2.2.2.2.2.2.2.2
  have hw := h.1.1.2.2.2.2
  have hr := wgt_r hw h.1.2.2.2.2.2.2.1 h.2.2.1 h0 h1
  have hz := hw.2.2.2.2.2.2.2.2.1
  refine FN.wi (WC.fn (t_243 o204 ?_))
  rw [m242 h h0 h1, e55, w3]
  unfold hvy
  refine ⟨gC zC.2.2.2.2.2 (by omega) (by show _ < ((4 : Nat) : Int); omega), by omega, by omega, ?_⟩
  by_cases q : wgt L X k < Lz L 6
  · rw [if_pos q, decide_eq_false (by omega)]
    exact ⟨rfl, rfl⟩
  · rw [if_neg q, decide_eq_true (by omega)]
    exact ⟨rfl, rfl⟩
theorem m218 {Q : Int → Mem → Prop} {i : Int} (hp : PtrM M) (hC : MCost M c) (h0 : 0 ≤ i) (h1 : i < 6) : WI 218 [vR 204, vI i] M Q = Q (c i) M := by
  refine FN.wi (WC.fn (t_218 o204 ?_))
  rw [hp.at (show ((61 : Int), (230 : Int)) ∈ mpT by decide), (hC i h0 h1).1]
  exact ⟨gC z230 (by omega) (by show _ < ((267 : Nat) : Int); omega), rfl, rfl⟩
def cstBy (c : Int → Int) (op kd cl lg : Int) : Int := ((((if op = 0 then c 0 else 0) + c 1 * cl) + (if op ≤ 1 then 0 else if kd = 4 then c 2 else 0)) + (if kd = 0 then c 3 else 0)) + (if lg = 0 then c 4 else 0)
theorem m244 {Q : Int → Mem → Prop} {op kd cl lg : Int} (hp : PtrM M) (hC : MCost M c) (ho : inR op) (hk : inR kd) (hl : inR lg) : WI 244 [vR 204, vI op, vI kd, vI cl, vI lg] M Q = Q (cstBy c op kd cl lg) M := by
  have s0 : ∀ P : Int → Mem → Prop, WI 218 [vR 204, vI 0] M P = P (c 0) M := fun P => m218 hp hC (by decide) (by decide)
  have s1 : ∀ P : Int → Mem → Prop, WI 218 [vR 204, vI 1] M P = P (c 1) M := fun P => m218 hp hC (by decide) (by decide)
  have s2 : ∀ P : Int → Mem → Prop, WI 218 [vR 204, vI 2] M P = P (c 2) M := fun P => m218 hp hC (by decide) (by decide)
  have s3 : ∀ P : Int → Mem → Prop, WI 218 [vR 204, vI 3] M P = P (c 3) M := fun P => m218 hp hC (by decide) (by decide)
  have s4 : ∀ P : Int → Mem → Prop, WI 218 [vR 204, vI 4] M P = P (c 4) M := fun P => m218 hp hC (by decide) (by decide)
  refine FN.wi (WC.fn (t_244 o204 ?_))
  unfold cstBy
  simp only [s0, s1, s2, s3, s4]
  have r0 : inR op ↔ True := iff_true_intro ho
  have r1 : inR kd ↔ True := iff_true_intro hk
  have r2 : inR lg ↔ True := iff_true_intro hl
  rw [r0, r1, r2]
  simp only [true_and, and_true]
  by_cases q0 : op = 0
  · have q1 : op ≤ 1 := by omega
    simp only [if_pos q0, if_pos q1]
    by_cases q2 : kd = 0
    · simp only [if_pos q2]
      by_cases q3 : lg = 0
      · simp only [if_pos q3]
      · simp only [if_neg q3]
    · simp only [if_neg q2]
      by_cases q3 : lg = 0
      · simp only [if_pos q3]
      · simp only [if_neg q3]
  · simp only [if_neg q0]
    by_cases q1 : op ≤ 1
    · simp only [if_pos q1]
      by_cases q2 : kd = 0
      · simp only [if_pos q2]
        by_cases q3 : lg = 0
        · simp only [if_pos q3]
        · simp only [if_neg q3]
      · simp only [if_neg q2]
        by_cases q3 : lg = 0
        · simp only [if_pos q3]
        · simp only [if_neg q3]
    · simp only [if_neg q1]
      by_cases q4 : kd = 4
      · have q2 : ¬ kd = 0 := by omega
        simp only [if_pos q4, if_neg q2]
        by_cases q3 : lg = 0
        · simp only [if_pos q3]
        · simp only [if_neg q3]
      · simp only [if_neg q4]
        by_cases q2 : kd = 0
        · simp only [if_pos q2]
          by_cases q3 : lg = 0
          · simp only [if_pos q3]
          · simp only [if_neg q3]
        · simp only [if_neg q2]
          by_cases q3 : lg = 0
          · simp only [if_pos q3]
          · simp only [if_neg q3]
theorem kind_1 {l : List Int} (h : l.length ≤ 1) : kind L W l = 1 := by
  unfold kind
  rw [if_pos h]
theorem cst_eq {l : List Int} {a b : Int} (hl : (l.length : Int) = a) (cl : List Int) (t : Int) : cstBy c a (kind L W l) b (b2i (closes L cl)) + t = b * c 1 + (if a = 0 then c 0 else if kind L W l = 4 then c 2 else if kind L W l = 0 then c 3 else 0) + (if closes L cl = true then 0 else c 4) + t := by
  unfold cstBy
  have e1 : (if b2i (closes L cl) = 0 then c 4 else 0) = (if closes L cl = true then 0 else c 4) := by
    cases closes L cl <;> rfl
  rw [e1, Int.mul_comm (c 1) b]
  by_cases q : a = 0
  · have hk := kind_1 (L := L) (W := W) (l := l) (by omega)
    rw [hk, if_pos q, if_pos q, if_pos (by omega), if_neg (by decide)]
    omega
  · rw [if_neg q, if_neg q]
    by_cases q4 : kind L W l = 4
    · have h1 : ¬ l.length ≤ 1 := fun z => by rw [kind_1 z] at q4; omega
      rw [if_pos q4, if_neg (show ¬ a ≤ 1 by omega), if_neg (by omega)]
      omega
    · rw [if_neg q4]
      have e2 : (if a ≤ 1 then 0 else (0 : Int)) = 0 := by split <;> rfl
      rw [e2]
      by_cases q0 : kind L W l = 0
      · rw [if_pos q0]
        omega
      · rw [if_neg q0]
        omega
end MC
