/-! THE CHANGES of the model: act, undo, learn, forget, cost. -/
section MC
variable {M M' : Mem} {ft fp : Int} {T : List Int} {L : Lw} {W S : List (List Int)} {c : Int → Int} {A : List Sn}
theorem z231 : shA SH 231 = (20, 3204) := by decide +kernel
def pushA (A : List Sn) (s : Sn) : List Sn := (if A.length < 12 then A else A.tail) ++ [s]
theorem sg_app {A B : List Sn} {i : Nat} : sg (A ++ B) i = if i < A.length then sg A i else sg B (i - A.length) := by
  unfold sg
  rw [List.getD_eq_getElem?_getD, List.getElem?_append]
  split
  · rw [List.getD_eq_getElem?_getD]
  · rw [List.getD_eq_getElem?_getD]
theorem sg_tail {A : List Sn} {i : Nat} : sg A.tail i = sg A (i + 1) := by
  unfold sg
  rw [List.getD_eq_getElem?_getD, List.getD_eq_getElem?_getD, List.getElem?_tail]
theorem MTal.e {W : List (List Int)} (h : MTal M L W) (f : M' 204 84 = M 204 84) (e : ∀ k : Int, 245 ≤ k → k ≤ 249 → M' k = M k) : MTal M' L W := by
  unfold MTal TlM at h ⊢
  rw [f, e 245 (by decide) (by decide), e 246 (by decide) (by decide), e 247 (by decide) (by decide), e 248 (by decide) (by decide), e 249 (by decide) (by decide)]
  exact h
theorem MdlS.lr {W' : List (List Int)} {c' : Int → Int} {A' : List Sn} (h : MdlS M T ft fp L W S c A) (e : ∀ k : Int, k ≠ 204 → k ≠ 230 → k ≠ 231 → M' k = M k) (f : ∀ j : Int, j ≠ 63 → j ≠ 84 → M' 204 j = M 204 j) (hW : MLrn M' L W') (hC : MCost M' c') (hT : MTal M' L W') (hA : ActM M' L A') : MdlS M' T ft fp L W' S c' A' := by
  obtain ⟨h1, h2, h3, h4⟩ := h
  obtain ⟨⟨a1, a2, a3, a4, a5⟩, b, d, e4⟩ := h1
  refine ⟨⟨⟨?_, ?_, ?_, ?_, a5⟩, hW, ?_, hC⟩, hT, ?_, hA⟩
  · intro x hx
    rw [f x.1 (by
      have : ∀ q ∈ mpT, q.1 ≠ 63 := by decide
      exact this x hx) (by
      have : ∀ q ∈ mpT, q.1 ≠ 84 := by decide
      exact this x hx)]
    exact a1 x hx
  · unfold MSnd at a2 ⊢
    rw [f 38 (by decide) (by decide), e 218 (by decide) (by decide) (by decide), e 219 (by decide) (by decide) (by decide), e 220 (by decide) (by decide) (by decide), e 221 (by decide) (by decide) (by decide)]
    exact a2
  · unfold MTld SegIs at a3 ⊢
    rw [f 39 (by decide) (by decide), f 40 (by decide) (by decide), e 222 (by decide) (by decide) (by decide), e 223 (by decide) (by decide) (by decide), e 224 (by decide) (by decide) (by decide)]
    exact a3
  · unfold MNum at a4 ⊢
    rw [f 41 (by decide) (by decide), f 42 (by decide) (by decide), f 43 (by decide) (by decide), f 44 (by decide) (by decide), f 45 (by decide) (by decide), f 46 (by decide) (by decide), f 47 (by decide) (by decide), e 225 (by decide) (by decide) (by decide)]
    exact a4
  · unfold MSpk SegIs at d ⊢
    rw [e 226 (by decide) (by decide) (by decide), e 227 (by decide) (by decide) (by decide), f 56 (by decide) (by decide)]
    exact d
  · obtain ⟨t1, t2, t3, t4, t5, t6⟩ := h3
    unfold TapM
    rw [f 1 (by decide) (by decide), f 10 (by decide) (by decide), f 11 (by decide) (by decide), e 205 (by decide) (by decide) (by decide)]
    exact ⟨t1, t2, t3, t4, t5, t6⟩
theorem MdlS.p61 (h : MdlS M T ft fp L W S c A) : M 204 61 = 230 := h.1.1.1.at (by decide)
theorem MdlS.p62 (h : MdlS M T ft fp L W S c A) : M 204 62 = 231 := h.1.1.1.at (by decide)
theorem SnIs.mv {o o' : Int} {s : Sn} (h : SnIs M o L s) (e : ∀ t : Int, 0 ≤ t → t < 267 → M' 231 (o' + t) = M 231 (o + t)) : SnIs M' o' L s := by
  obtain ⟨h1, h2, h3, h4⟩ := h
  refine ⟨?_, h2, fun i hi => ?_, fun i a b => ?_⟩
  · have := e 0 (by decide) (by decide)
    rw [Int.add_zero, Int.add_zero] at this
    rw [this]
    exact h1
  · obtain ⟨b1, b2, b3⟩ := h3 i hi
    refine ⟨?_, fun j x y => ?_, b3⟩
    · rw [Int.add_assoc, e (1 + i) (by omega) (by omega), ← Int.add_assoc]
      exact b1
    · have := b3.2.1
      rw [show o' + 21 + 12 * (i : Int) + j = o' + (21 + 12 * (i : Int) + j) by omega, e (21 + 12 * i + j) (by omega) (by omega), ← b2 j x y]
      congr 1
      omega
  · rw [Int.add_assoc, e (261 + i) (by omega) (by omega), ← Int.add_assoc]
    exact h4 i a b
theorem SnIs.of {o : Int} (hW : MLrn M L W) (hC : MCost M c) (e : ∀ t : Int, 0 ≤ t → t < 267 → M' 231 (o + t) = M 230 t) : SnIs M' o L (W, c) := by
  obtain ⟨h1, h2, h3⟩ := hW
  refine ⟨?_, h2, fun i hi => ?_, fun i a b => ?_⟩
  · have := e 0 (by decide) (by decide)
    rw [Int.add_zero] at this
    rw [this]
    exact h1
  · replace hi : i < W.length := hi
    obtain ⟨b1, b2, b3⟩ := h3 i hi
    refine ⟨?_, fun j x y => ?_, b3⟩
    · rw [Int.add_assoc, e (1 + i) (by omega) (by omega)]
      exact b1
    · have := b3.2.1
      replace y : j < (W.getD i []).length := y
      rw [show o + 21 + 12 * (i : Int) + j = o + (21 + 12 * (i : Int) + j) by omega, e (21 + 12 * i + j) (by omega) (by omega)]
      exact b2 j x y
  · rw [Int.add_assoc, e (261 + i) (by omega) (by omega)]
    exact hC i a b
theorem SnIs.to {o : Int} {s : Sn} (h : SnIs M o L s) (e : ∀ t : Int, 0 ≤ t → t < 267 → M' 230 t = M 231 (o + t)) : MLrn M' L s.1 ∧ MCost M' s.2 := by
  obtain ⟨h1, h2, h3, h4⟩ := h
  refine ⟨⟨?_, h2, fun i hi => ?_⟩, fun i a b => ?_⟩
  · have := e 0 (by decide) (by decide)
    rw [Int.add_zero] at this
    rw [this]
    exact h1
  · obtain ⟨b1, b2, b3⟩ := h3 i hi
    refine ⟨?_, fun j x y => ?_, b3⟩
    · rw [e (1 + i) (by omega) (by omega), ← Int.add_assoc]
      exact b1
    · have := b3.2.1
      rw [e (21 + 12 * i + j) (by omega) (by omega), ← b2 j x y]
      congr 1
      omega
  · rw [e (261 + i) (by omega) (by omega), ← Int.add_assoc]
    exact h4 i a b
theorem MdlS.pt {q : Int × Int} (h : MdlS M T ft fp L W S c A) (hq : q ∈ mpT) : M 204 q.1 = q.2 := h.1.1.1 q hq
theorem m213b {Q : Mem → Prop} (h : MdlS M T ft fp L W S c A) (ha : A.length ≤ 11) (hQ : ∀ M' : Mem, M' 204 84 = 0 → MdlS M' T ft fp L W S c (A ++ [(W, c)]) → Q M') : WR 213 54 [some (vR 204), some (vI 0)] [] M (fun _ M' => Q M') := by
  have p1 := h.p61
  have p2 := h.p62
  have n3 := h.2.2.2.1
  have key : ∀ (n : Nat) (x : Int), x + n = 267 → 0 ≤ x → ∀ N : Mem, (∀ k : Int, k ≠ 231 → N k = M k) → (∀ j : Int, N 231 j = if 267 * (A.length : Int) ≤ j ∧ j < 267 * (A.length : Int) + x then M 230 (j - 267 * (A.length : Int)) else M 231 j) → WR 213 54 [some (vR 204), some (vI x)] [] N (fun _ M' => Q M') := by
    intro n
    induction n with
    | zero =>
      intro x hx x0 N e e1
      have e4 : N 204 = M 204 := e 204 (by decide)
      refine t_213_54 o204 ⟨by omega, ?_⟩
      rw [if_pos (by omega), e4, n3]
      refine t_282 o204 (hQ _ upM_s ?_)
      have g : ∀ k : Int, k ≠ 204 → upM (upM N 204 63 ((A.length : Int) + 1)) 204 84 0 k = N k := fun k a => by rw [upM_o a, upM_o a]
      have f : ∀ j : Int, j ≠ 63 → j ≠ 84 → upM (upM N 204 63 ((A.length : Int) + 1)) 204 84 0 204 j = M 204 j := fun j a b => by rw [upM_f b, upM_f a, e4]
      refine h.lr (fun k a b d => by rw [g k a, e k d]) f ?_ ?_ (Or.inl upM_s) ⟨?_, by rw [List.length_append]; exact Nat.succ_le_succ ha, fun j hj => ?_⟩
      · have := h.1.2.1
        unfold MLrn SegIs at this ⊢
        rw [g 230 (by decide), e 230 (by decide)]
        exact this
      · have := h.1.2.2.2
        unfold MCost at this ⊢
        rw [g 230 (by decide), e 230 (by decide)]
        exact this
      · rw [upM_f (by decide), upM_s, List.length_append]
        rfl
      · rw [List.length_append, List.length_singleton] at hj
        rw [sg_app]
        by_cases q : j < A.length
        · rw [if_pos q]
          refine (h.2.2.2.2.2 j q).mv (fun t a b => ?_)
          rw [g 231 (by decide), e1, if_neg (by omega)]
        · have ej : j = A.length := by omega
          rw [if_neg q, ej, Nat.sub_self]
          refine SnIs.of h.1.2.1 h.1.2.2.2 (fun t a b => ?_)
          rw [g 231 (by decide), e1, if_pos (by omega)]
          congr 1
          omega
    | succ n ih =>
      intro x hx x0 N e e1
      have e4 : N 204 = M 204 := e 204 (by decide)
      refine t_213_54 o204 ⟨by omega, ?_⟩
      rw [if_neg (by omega), e4, n3, p1, p2]
      refine ⟨gC z230 x0 (by show _ < ((267 : Nat) : Int); omega), gC z231 (by omega) (by show _ < ((3204 : Nat) : Int); omega), ih (x + 1) (by omega) (by omega) _ (fun k a => by rw [upM_o a, e k a]) (fun j => ?_)⟩
      by_cases q : j = 267 * (A.length : Int) + x
      · rw [q, upM_s, if_pos (by omega), e 230 (by decide)]
        congr 1
        omega
      · rw [upM_f q, e1]
        by_cases q1 : 267 * (A.length : Int) ≤ j ∧ j < 267 * (A.length : Int) + x
        · rw [if_pos q1, if_pos (by omega)]
        · rw [if_neg q1, if_neg (by omega)]
  exact key 267 0 (by decide) (by decide) M (fun _ _ => rfl) (fun j => by rw [if_neg (by omega)])
theorem m213 {Q : Mem → Prop} (h : MdlS M T ft fp L W S c A) (hQ : ∀ M' : Mem, M' 204 84 = 0 → MdlS M' T ft fp L W S c (pushA A (W, c)) → Q M') : WV 213 [vR 204] M Q := by
  have p2 := h.p62
  have n3 := h.2.2.2.1
  have n12 := h.2.2.2.2.1
  unfold pushA at hQ
  refine t_213 o204 ?_
  rw [n3]
  refine ⟨by omega, ?_⟩
  by_cases q0 : A.length = 12
  rotate_left
  · rw [if_neg (by omega)]
    rw [if_pos (by omega)] at hQ
    exact m213b h (by omega) hQ
  rw [if_pos (by omega)]
  rw [if_neg (by omega)] at hQ
  have key : ∀ (n : Nat) (x : Int), x + n = 3204 → 267 ≤ x → ∀ N : Mem, (∀ k : Int, k ≠ 231 → N k = M k) → (∀ j : Int, 0 ≤ j → N 231 j = if j < x - 267 then M 231 (j + 267) else M 231 j) → WR 213 13 [some (vR 204), some (vI x)] [] N (fun _ M' => Q M') := by
    intro n
    induction n with
    | zero =>
      intro x hx x0 N e e1
      have e4 : N 204 = M 204 := e 204 (by decide)
      refine t_213_13 o204 ⟨by omega, ?_⟩
      rw [if_pos (by omega), e4, n3]
      have tl : A.tail.length = 11 := by rw [List.length_tail]; omega
      have g : ∀ k : Int, k ≠ 204 → upM N 204 63 ((A.length : Int) - 1) k = N k := fun k a => upM_o a
      refine m213b (h.lr (fun k a b d => by rw [g k a, e k d]) (fun j a b => by rw [upM_f a, e4]) ?_ ?_ (h.2.1.e (by rw [upM_f (by decide), e4]) (fun k a b => by rw [g k (by omega), e k (by omega)])) ⟨by rw [upM_s]; omega, by omega, fun j hj => ?_⟩) (by omega) hQ
      · have := h.1.2.1
        unfold MLrn SegIs at this ⊢
        rw [g 230 (by decide), e 230 (by decide)]
        exact this
      · have := h.1.2.2.2
        unfold MCost at this ⊢
        rw [g 230 (by decide), e 230 (by decide)]
        exact this
      · rw [sg_tail]
        refine (h.2.2.2.2.2 (j + 1) (by omega)).mv (fun t a b => ?_)
        rw [g 231 (by decide), e1 _ (by omega), if_pos (by omega)]
        congr 1
        omega
    | succ n ih =>
      intro x hx x0 N e e1
      have e4 : N 204 = M 204 := e 204 (by decide)
      refine t_213_13 o204 ⟨by omega, ?_⟩
      rw [if_neg (by omega), e4, p2]
      refine ⟨gC z231 (by omega) (by show _ < ((3204 : Nat) : Int); omega), gC z231 (by omega) (by show _ < ((3204 : Nat) : Int); omega), ih (x + 1) (by omega) (by omega) _ (fun k a => by rw [upM_o a, e k a]) (fun j hj => ?_)⟩
      by_cases q : j = x - 267
      · rw [q, upM_s, if_pos (by omega), e1 x (by omega), if_neg (by omega)]
        congr 1
        omega
      · rw [upM_f q, e1 j hj]
        by_cases q1 : j < x - 267
        · rw [if_pos q1, if_pos (by omega)]
        · rw [if_neg q1, if_neg (by omega)]
  exact key 2937 267 (by decide) (by decide) M (fun _ _ => rfl) (fun j hj => by rw [if_neg (by omega)])
theorem mUndo0 {Q : Int → Mem → Prop} (h : MdlS M T ft fp L W S c []) (hQ : ∀ M' : Mem, MdlS M' T ft fp L W S c [] → Q (-1) M') : WI 214 [vR 204] M Q := by
  have n3 := h.2.2.2.1
  refine t_214 o204 ?_
  rw [n3]
  refine ⟨by decide, ?_⟩
  rw [if_pos (by decide)]
  exact ⟨_, rfl, hQ M h⟩
theorem mUndo {Q : Int → Mem → Prop} {s : Sn} (h : MdlS M T ft fp L W S c (A ++ [s])) (hQ : ∀ M' : Mem, MdlS M' T ft fp L s.1 S s.2 A → Q (A.length : Int) M') : WI 214 [vR 204] M Q := by
  have p1 := h.p61
  have p2 := h.p62
  have n3 := h.2.2.2.1
  have n12 := h.2.2.2.2.1
  rw [List.length_append, List.length_singleton] at n3 n12
  have hl := h.2.2.2.2.2 A.length (by rw [List.length_append, List.length_singleton]; omega)
  rw [sg_app, if_neg (by omega), Nat.sub_self] at hl
  refine t_214 o204 ?_
  rw [n3, show ((A.length + 1 : Nat) : Int) - 1 = A.length by omega]
  refine ⟨by omega, ?_⟩
  rw [if_neg (by omega)]
  have key : ∀ (n : Nat) (x : Int), x + n = 267 → 0 ≤ x → ∀ N : Mem, (∀ k : Int, k ≠ 204 → k ≠ 230 → N k = M k) → (∀ j : Int, j ≠ 63 → N 204 j = M 204 j) → N 204 63 = A.length → (∀ j : Int, 0 ≤ j → j < x → N 230 j = M 231 (267 * (A.length : Int) + j)) → WR 214 21 [some (vR 204), some (vI x)] [] N (fun r M' => ∃ i, r = vI i ∧ Q i M') := by
    intro n
    induction n with
    | zero =>
      intro x hx x0 N e f f3 e1
      refine t_214_21 o204 ⟨by omega, ?_⟩
      rw [if_pos (by omega)]
      refine t_282 o204 ?_
      have e84 : upM N 204 84 0 204 63 = A.length := by rw [upM_f (by decide)]; exact f3
      dsimp only
      rw [e84]
      obtain ⟨r1, r2⟩ := @SnIs.to M (upM N 204 84 0) L (267 * (A.length : Int)) s hl (fun t a b => by rw [upM_o (by decide)]; exact e1 t a (by omega))
      refine ⟨_, rfl, hQ _ (h.lr (fun k a b d => by rw [upM_o a, e k a b]) (fun j a b => by rw [upM_f b, f j a]) r1 r2 (Or.inl upM_s) ⟨e84, by omega, fun j hj => ?_⟩)⟩
      have := h.2.2.2.2.2 j (by rw [List.length_append]; omega)
      rw [sg_app, if_pos hj] at this
      exact this.mv (fun t a b => by rw [upM_o (by decide), e 231 (by decide) (by decide)])
    | succ n ih =>
      intro x hx x0 N e f f3 e1
      refine t_214_21 o204 ⟨by omega, ?_⟩
      rw [if_neg (by omega), f3, f 61 (by decide), f 62 (by decide), p1, p2]
      refine ⟨gC z231 (by omega) (by show _ < ((3204 : Nat) : Int); omega), gC z230 x0 (by show _ < ((267 : Nat) : Int); omega), ih (x + 1) (by omega) (by omega) _ (fun k a b => by rw [upM_o b, e k a b]) (fun j a => by rw [upM_o (by decide), f j a]) (by rw [upM_o (by decide)]; exact f3) (fun j a b => ?_)⟩
      by_cases q : j = x
      · rw [q, upM_s, e 231 (by decide) (by decide)]
      · rw [upM_f q]
        exact e1 j a (by omega)
  exact key 267 0 (by decide) (by decide) _ (fun k a b => upM_o a) (fun j a => upM_f a) upM_s (fun j a b => absurd a (by omega))
theorem wr_lo {x : Int} (h0 : -4294967296 ≤ x) (h1 : x < -2147483648) : wr32 x = x + 4294967296 := by
  unfold wr32
  rw [Int32.toInt_ofInt]
  unfold Int.bmod
  dsimp only
  have : x % ((2 ^ 32 : Nat) : Int) = x + 4294967296 := by
    show x % 4294967296 = _
    omega
  rw [this, if_pos (by show x + 4294967296 < (4294967296 + 1) / 2; omega)]
theorem mLearn {Q : Int → Mem → Prop} {n : Int} (h : MdlS M T ft fp L W S c A) (hn : inR n) (hQ : ∀ M' : Mem, (if (0 ≤ n ∧ n < S.length) ∧ W.length < 20 then MdlS M' T ft fp L (W ++ [S.getD n.toNat []]) S c (pushA A (W, c)) → Q (100 + (W.length : Int)) M' else MdlS M' T ft fp L W S c A → Q (-1) M')) : WI 215 [vR 204, vI n] M Q := by
  have p1 := h.p61
  have hS := h.1.2.2.1
  have hW := h.1.2.1
  have s8 := hS.2.1
  have w20 := hW.2.1
  refine t_215 o204 ?_
  rw [hS.1, wr_id hn, wr_id (by omega), m177 (by omega) (by decide) (by omega)]
  refine ⟨by have := b2i_r (decide (0 ≤ n ∧ n ≤ (S.length : Int) - 1)); omega, ?_⟩
  by_cases q1 : 0 ≤ n ∧ n < S.length
  rotate_left
  · rw [decide_eq_false (by omega), if_pos (by decide)]
    have := hQ M
    rw [if_neg (fun z => q1 z.1)] at this
    exact ⟨_, rfl, this h⟩
  rw [decide_eq_true (by omega), if_neg (by decide), p1, hW.1]
  refine ⟨gC z230 (by decide) (by decide), by omega, ?_⟩
  by_cases q2 : W.length < 20
  rotate_left
  · rw [if_pos (by omega)]
    have := hQ M
    rw [if_neg (fun z => q2 z.2)] at this
    exact ⟨_, rfl, this h⟩
  rw [if_neg (by omega)]
  refine m213 h (fun M1 h84 h1 => ?_)
  have p1' := h1.p61
  have p57 : M1 204 57 = 226 := h1.1.1.1.at (by decide)
  have p58 : M1 204 58 = 227 := h1.1.1.1.at (by decide)
  have hW1 := h1.1.2.1
  obtain ⟨d, hd⟩ : ∃ d : Nat, n = d := ⟨n.toNat, by omega⟩
  obtain ⟨b1, b2, b3⟩ := h1.1.2.2.1.2.2 d (by omega)
  have bl := b3.2.1
  have e230 : ∀ v : Int, upM M1 230 0 v 204 = M1 204 := fun v => upM_o (by decide)
  have e227 : ∀ v : Int, upM M1 230 0 v 227 = M1 227 := fun v => upM_o (by decide)
  rw [p1', hW1.1, e230, p58, p1', e227, hd, b1]
  refine ⟨gC z230 (by decide) (by decide), gC z230 (by decide) (by decide), gC z230 (by decide) (by decide), gC z226.2 (by omega) (by show _ < ((8 : Nat) : Int); omega), gC z230 (by omega) (by show _ < ((267 : Nat) : Int); omega), ?_⟩
  rw [hd] at hQ
  rw [Int.toNat_natCast] at hQ
  have key : ∀ (m : Nat) (x : Int), x + m = 12 → 0 ≤ x → ∀ N : Mem, (∀ k : Int, k ≠ 230 → N k = M1 k) → (∀ j : Int, N 230 j = if j = 0 then (W.length : Int) + 1 else if j = 1 + (W.length : Int) then ((S.getD d []).length : Int) else if 21 + 12 * (W.length : Int) ≤ j ∧ j < 21 + 12 * (W.length : Int) + x then M1 226 (12 * d + (j - (21 + 12 * (W.length : Int)))) else M1 230 j) → WR 215 66 [some (vR 204), some (vI d), some (vI W.length), some (vI x)] [] N (fun r M' => ∃ i, r = vI i ∧ Q i M') := by
    intro m
    induction m with
    | zero =>
      intro x hx x0 N e e1
      refine t_215_66 o204 ⟨by omega, ?_⟩
      rw [if_pos (by omega)]
      have := hQ N
      rw [if_pos ⟨by omega, q2⟩] at this
      refine ⟨_, rfl, this (h1.lr (fun k a b d => e k b) (fun j a b => by rw [e 204 (by decide)]) ⟨?_, ?_, fun i hi => ?_⟩ (fun i a b => ?_) (Or.inl (by rw [e 204 (by decide)]; exact h84)) (h1.2.2.2.fr (by rw [e 204 (by decide)]) (e 231 (by decide))))⟩
      · rw [e1, if_pos rfl, List.length_append]
        rfl
      · rw [List.length_append, List.length_singleton]
        omega
      · rw [List.length_append, List.length_singleton] at hi
        rw [getD_app]
        by_cases q : i < W.length
        · obtain ⟨c1, c2, c3⟩ := hW1.2.2 i q
          have cl := c3.2.1
          rw [if_pos q]
          refine ⟨?_, fun j x y => ?_, c3⟩
          · rw [e1, if_neg (by omega), if_neg (by omega), if_neg (by omega)]
            exact c1
          · rw [e1, if_neg (by omega), if_neg (by omega), if_neg (by omega)]
            exact c2 j x y
        · have ei : i = W.length := by omega
          rw [if_neg q, ei, Nat.sub_self]
          refine ⟨?_, fun j x y => ?_, b3⟩
          · rw [e1, if_neg (by omega), if_pos rfl]
            rfl
          · replace y : j < (S.getD d []).length := y
            rw [e1, if_neg (by omega), if_neg (by omega), if_pos (by omega)]
            have := b2 j x y
            rw [show 12 * (d : Int) + (21 + 12 * (W.length : Int) + j - (21 + 12 * (W.length : Int))) = 12 * d + j by omega]
            exact this
      · rw [e1, if_neg (by omega), if_neg (by omega), if_neg (by omega)]
        exact h1.1.2.2.2 i a b
    | succ m ih =>
      intro x hx x0 N e e1
      refine t_215_66 o204 ⟨by omega, ?_⟩
      rw [if_neg (by omega), e 204 (by decide), p1', p57, e 226 (by decide)]
      refine ⟨gC z226.1 (by omega) (by show _ < ((96 : Nat) : Int); omega), gC z230 (by omega) (by show _ < ((267 : Nat) : Int); omega), ih (x + 1) (by omega) (by omega) _ (fun k a => by rw [upM_o a, e k a]) (fun j => ?_)⟩
      by_cases q : j = 21 + 12 * (W.length : Int) + x
      · rw [q, upM_s, if_neg (by omega), if_neg (by omega), if_pos (by omega)]
        congr 1
        omega
      · rw [upM_f q, e1]
        by_cases q1 : 21 + 12 * (W.length : Int) ≤ j ∧ j < 21 + 12 * (W.length : Int) + x
        · rw [if_pos q1, if_pos (show 21 + 12 * (W.length : Int) ≤ j ∧ j < 21 + 12 * (W.length : Int) + (x + 1) by omega)]
        · rw [if_neg q1, if_neg (show ¬ (21 + 12 * (W.length : Int) ≤ j ∧ j < 21 + 12 * (W.length : Int) + (x + 1)) by omega)]
  refine key 12 0 (by decide) (by decide) _ (fun k a => by rw [upM_o a, upM_o a]) (fun j => ?_)
  by_cases q3 : j = 1 + (W.length : Int)
  · rw [q3, upM_s, if_neg (by omega), if_pos rfl]
  rw [upM_f q3, if_neg q3]
  by_cases q4 : j = 0
  · rw [if_pos q4, q4, upM_s]
  · rw [if_neg q4, upM_f q4, if_neg (by omega)]
theorem mCost {Q : Int → Mem → Prop} {i v : Int} (h : MdlS M T ft fp L W S c A) (hi : inR i) (hv : inR v) (hQ : ∀ M' : Mem, (if (0 ≤ i ∧ i < 6) ∧ (0 ≤ v ∧ v ≤ 999) ∧ v ≠ c i then MdlS M' T ft fp L W S (updC c i v) (pushA A (W, c)) → Q (c i) M' else MdlS M' T ft fp L W S c A → Q (-1) M')) : WI 217 [vR 204, vI i, vI v] M Q := by
  have p1 := h.p61
  have no : (¬ ((0 ≤ i ∧ i < 6) ∧ (0 ≤ v ∧ v ≤ 999) ∧ v ≠ c i)) → Q (-1) M := fun z => by
    have := hQ M
    rw [if_neg z] at this
    exact this h
  refine t_217 o204 ?_
  rw [wr_id hi, wr_id hv, m177 (by omega) (by decide) (by decide)]
  refine ⟨by have := b2i_r (decide (0 ≤ i ∧ i ≤ 5)); omega, ?_⟩
  by_cases q1 : 0 ≤ i ∧ i < 6
  rotate_left
  · rw [decide_eq_false (by omega), if_pos (by decide)]
    exact ⟨_, rfl, no (fun z => q1 z.1)⟩
  rw [decide_eq_true (by omega), if_neg (by decide), m177 (by omega) (by decide) (by decide)]
  refine ⟨by have := b2i_r (decide (0 ≤ v ∧ v ≤ 999)); omega, ?_⟩
  by_cases q2 : 0 ≤ v ∧ v ≤ 999
  rotate_left
  · rw [decide_eq_false (by omega), if_pos (by decide)]
    exact ⟨_, rfl, no (fun z => q2 z.2.1)⟩
  obtain ⟨e1, e2, e3⟩ := h.1.2.2.2 i q1.1 q1.2
  rw [decide_eq_true (by omega), if_neg (by decide), p1, e1]
  refine ⟨gC z230 (by omega) (by show _ < ((267 : Nat) : Int); omega), by omega, hv, ?_⟩
  by_cases q3 : c i = v
  · rw [if_pos q3]
    exact ⟨_, rfl, no (fun z => z.2.2 q3.symm)⟩
  rw [if_neg q3]
  refine m213 h (fun M1 h84 h1 => ?_)
  have p1' := h1.p61
  rw [p1', (h1.1.2.2.2 i q1.1 q1.2).1]
  refine ⟨gC z230 (by omega) (by show _ < ((267 : Nat) : Int); omega), gC z230 (by omega) (by show _ < ((267 : Nat) : Int); omega), _, rfl, ?_⟩
  have g : ∀ k : Int, k ≠ 230 → upM M1 230 (261 + i) v k = M1 k := fun k a => upM_o a
  have := hQ (upM M1 230 (261 + i) v)
  rw [if_pos ⟨q1, q2, fun z => q3 z.symm⟩] at this
  have hW1 := h1.1.2.1
  refine this (h1.lr (fun k a b d => g k b) (fun j a b => by rw [g 204 (by decide)]) ⟨?_, hW1.2.1, fun j hj => ?_⟩ (fun j a b => ?_) (Or.inl (by rw [g 204 (by decide)]; exact h84)) (h1.2.2.2.fr (by rw [g 204 (by decide)]) (g 231 (by decide))))
  · rw [upM_f (by omega)]
    exact hW1.1
  · obtain ⟨c1, c2, c3⟩ := hW1.2.2 j hj
    have cl := c3.2.1
    have := hW1.2.1
    refine ⟨?_, fun t x y => ?_, c3⟩
    · rw [upM_f (by omega)]
      exact c1
    · rw [upM_f (by omega)]
      exact c2 t x y
  · unfold updC
    by_cases q : j = i
    · rw [if_pos q, q, upM_s]
      exact ⟨rfl, q2⟩
    · rw [if_neg q, upM_f (by omega)]
      exact h1.1.2.2.2 j a b
end MC
