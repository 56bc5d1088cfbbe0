/-! FEED and END, on both sides. -/
theorem and32_255 (x : Int) : and32 x 255 = x % 256 := by
  unfold and32
  have h3 : (Int32.ofInt x &&& Int32.ofInt 255).toBitVec.toNat = (x % 256).toNat := by
    rw [Int32.toBitVec_and, BitVec.toNat_and]
    show (BitVec.ofInt 32 x).toNat &&& (2 ^ 8 - 1) = _
    rw [Nat.and_two_pow_sub_one_eq_mod, BitVec.toNat_ofInt]
    omega
  show (Int32.ofInt x &&& Int32.ofInt 255).toBitVec.toInt = _
  rw [BitVec.toInt_eq_toNat_of_lt (by rw [h3]; omega), h3]
  omega
theorem bt_app {A B : List Int} {i : Nat} : bt (A ++ B) i = if i < A.length then bt A i else bt B (i - A.length) := by
  unfold bt
  rw [List.getD_eq_getElem?_getD, List.getD_eq_getElem?_getD, List.getD_eq_getElem?_getD]
  by_cases h : i < A.length
  · rw [if_pos h, List.getElem?_append_left h]
  · rw [if_neg h, List.getElem?_append_right (by omega)]
theorem app4 (T : List Int) (a b c d : Int) : T ++ [a] ++ [b] ++ [c] ++ [d] = T ++ [a, b, c, d] := by simp
def byte4 (x : Int) : List Int := [x / 16777216 % 256, x / 65536 % 256, x / 256 % 256, x % 256]
theorem byt_app {A : List Int} {b : Int} (h : byt A) (hb : 0 ≤ b ∧ b < 256) : byt (A ++ [b]) := fun x hx => by
  rcases List.mem_append.mp hx with z | z
  · exact h x z
  · rw [List.mem_singleton.mp z]; exact hb
theorem WrdP.kp {M M' : Mem} {q : Int} {n : Nat} {L : Lw} {W : List (List Int)} (h : WrdP M q n L W) (e : ∀ k : Int, q ≤ k → k ≤ q + 2 + 2 * n → M' k = M k) : WrdP M' q n L W := by
  obtain ⟨⟨y1, y2, y3, y4, y5, y6⟩, z⟩ := h
  refine ⟨⟨y1, by rw [e q (by omega) (by omega)]; exact y2, by rw [e q (by omega) (by omega)]; exact y3, y4, y5, fun i hi => ?_⟩, ?_⟩
  · obtain ⟨z1, z2, z3, z4⟩ := y6 i hi
    clear y6
    rw [e (q + 2) (by omega) (by omega)]
    exact ⟨z1.fr (e _ (by omega) (by omega)) (e _ (by omega) (by omega)), by rw [e _ (by omega) (by omega)]; exact z2, z3, z4⟩
  · have hn : 1 ≤ n ∨ n = 0 := by omega
    refine ⟨fun i a b => ?_, fun i j a b d => ?_⟩
    · obtain ⟨c1, c2, c3, c4⟩ := z.1 i a b
      rw [e (q + 2) (by omega) (by omega), e _ (by omega) (by omega)]
      exact ⟨c1, c2, c3, c4⟩
    · rw [e (q + 2) (by omega) (by omega)]
      exact z.2 i j a b d
section FE
variable {M M' : Mem} {p p' q q' ft fp : Int} {T : List Int} {L : Lw} {W S : List (List Int)} {c : Int → Int} {E : List En} {A : List Sn}
theorem ClsS.wp (h : ClsS M p p' q q' T ft fp L W S c E) : WrdP M (p + 8) 20 L W := ⟨h.2.1.1.2.1, h.2.2.2.2.2.2.1⟩
/-- the tape alone -/
theorem ClsS.tp {T' : List Int} {ft' fp' : Int} (h : ClsS M p p' q q' T ft fp L W S c E) (e : ∀ k : Int, k ≠ 2 → k ≠ 3 → M' k = M k) (hT : TapC M' T' ft' fp') : ClsS M' p p' q q' T' ft' fp' L W S c E := by
  have lw := h.2.1.1.1.1
  unfold LwC at lw
  have e8 : M' (p + 8) = M (p + 8) := e _ (by omega) (by omega)
  have e53 : M' (p + 53) = M (p + 53) := e _ (by omega) (by omega)
  refine h.ch (fun k hk => e k hk.1 hk.2.1) (fun j _ => by rw [e8]) (h.wp.kp (fun k a b => e k (by omega) (by omega))) ?_ hT (h.2.2.2.2.2.2.2.2.2.fr (fun k a b => e k (by omega) (by omega)))
  have := h.2.1.2.2.2.1
  unfold CstIs at this ⊢
  rw [e53]
  exact this
theorem TapC.push (h : TapC M T ft fp) {b : Int} (hb : 0 ≤ b ∧ b < 256) (hl : T.length < 900) : TapC (upM (upM M 3 T.length (sgn b)) 2 1 ((T.length : Int) + 1)) (T ++ [b]) ft fp := by
  obtain ⟨t0, t1, t2, t3, t4, t5, t6⟩ := h
  have e2 : ∀ v, upM M 3 T.length v 2 = M 2 := fun v => upM_o (by decide)
  refine ⟨by rw [upM_f (by decide), e2]; exact t0, by rw [upM_s, List.length_append]; rfl, by rw [List.length_append, List.length_singleton]; omega, byt_app t3 hb, fun j hj => ?_, by rw [upM_f (by decide), e2]; exact t5, by rw [upM_f (by decide), e2]; exact t6⟩
  rw [List.length_append, List.length_singleton] at hj
  rw [upM_o (by decide), bt_app]
  by_cases e : j = T.length
  · rw [if_neg (by omega), e, upM_s, Nat.sub_self]
    rfl
  · rw [if_pos (by omega), upM_f (by omega)]
    exact t4 j (by omega)
theorem s123 {Q : Mem → Prop} {x : Int} (h : TapC M T ft fp) (hl : T.length + 4 ≤ 900) (hQ : ∀ M' : Mem, (∀ k : Int, k ≠ 2 → k ≠ 3 → M' k = M k) → TapC M' (T ++ byte4 x) ft fp → Q M') : WV 123 [vR 2, vI x] M Q := by
  have step : ∀ (N : Mem) (T : List Int) (s b : Int) (P : AV → Mem → Prop), TapC N T ft fp → T.length < 900 → 0 ≤ s → s < 32 → 0 ≤ b ∧ b < 256 → (x % 4294967296 / 2 ^ s.toNat + 128) % 256 - 128 = sgn b → WR 123 3 [some (vR 2), some (vI x), some (vI (s + (-8)))] [] (upM (upM N 3 T.length (sgn b)) 2 1 ((T.length : Int) + 1)) P → WR 123 3 [some (vR 2), some (vI x), some (vI s)] [] N P := by
    intro N T s b P hT hl s0 s1 hb he hP
    obtain ⟨t0, t1, t2, t3, t4, t5, t6⟩ := hT
    refine t_123_3 o2.1 ⟨by omega, ?_⟩
    rw [if_neg (by omega), t0, t1, o2.2]
    refine ⟨⟨by decide, by decide, by decide, by decide⟩, by omega, by decide, ?_⟩
    have e2 : ∀ v, upM N 3 T.length v 2 1 = T.length := fun v => by rw [upM_o (by decide)]; exact t1
    rw [if_neg (by show ¬ ((900 : Nat) : Int) ≤ _; omega), he, e2]
    refine ⟨⟨s0, s1⟩, Or.inl ⟨⟨by rw [o2.2], by omega, by rw [o2.2]; show _ < ((900 : Nat) : Int); omega⟩, ?_, ?_⟩, hP⟩
    · unfold sgn; split <;> omega
    · unfold sgn; split <;> omega
  have len4 : byte4 x = [x / 16777216 % 256] ++ ([x / 65536 % 256] ++ ([x / 256 % 256] ++ [x % 256])) := rfl
  have l1 : ∀ (A : List Int) (b : Int), (A ++ [b]).length = A.length + 1 := fun A b => by simp
  rw [len4] at hQ
  have T1 := h.push (b := x / 16777216 % 256) (by omega) (by omega)
  refine t_123 o2.1 (step M T 24 (x / 16777216 % 256) _ h (by omega) (by decide) (by decide) (by omega) ?_ ?_)
  · rw [show (2 : Int) ^ (24 : Int).toNat = 16777216 from rfl]; unfold sgn; split <;> omega
  have T2 := T1.push (b := x / 65536 % 256) (by omega) (by rw [l1]; omega)
  refine step _ _ 16 (x / 65536 % 256) _ T1 (by rw [l1]; omega) (by decide) (by decide) (by omega) ?_ ?_
  · rw [show (2 : Int) ^ (16 : Int).toNat = 65536 from rfl]; unfold sgn; split <;> omega
  have T3 := T2.push (b := x / 256 % 256) (by omega) (by rw [l1, l1]; omega)
  refine step _ _ 8 (x / 256 % 256) _ T2 (by rw [l1, l1]; omega) (by decide) (by decide) (by omega) ?_ ?_
  · rw [show (2 : Int) ^ (8 : Int).toNat = 256 from rfl]; unfold sgn; split <;> omega
  have T4 := T3.push (b := x % 256) (by omega) (by rw [l1, l1, l1]; omega)
  refine step _ _ 0 (x % 256) _ T3 (by rw [l1, l1, l1]; omega) (by decide) (by decide) (by omega) ?_ ?_
  · rw [show (2 : Int) ^ (0 : Int).toNat = 1 from rfl]; unfold sgn; split <;> omega
  refine t_123_3 o2.1 ⟨by decide, ?_⟩
  rw [if_pos (by decide)]
  refine hQ _ (fun k a b => ?_) ?_
  · rw [upM_o a, upM_o b, upM_o a, upM_o b, upM_o a, upM_o b, upM_o a, upM_o b]
  · rw [app4] at T4
    exact T4
def feedT (T : List Int) (a b c d e : Int) : List Int := T ++ byte4 a ++ byte4 b ++ byte4 c ++ byte4 d ++ byte4 e
theorem feedT_len (T : List Int) (a b c d e : Int) : (feedT T a b c d e).length = T.length + 20 := by
  unfold feedT byte4
  simp
theorem cFeed {Q : Int → Mem → Prop} {x1 x2 x3 x4 x5 : Int} (h : ClsS M p p' q q' T ft fp L W S c E) (hQ : ∀ M' : Mem, (if T.length + 20 ≤ 900 then ClsS M' p p' q q' (feedT T x1 x2 x3 x4 x5) ft fp L W S c E → Q ((T.length : Int) + 20) M' else ClsS M' p p' q q' T ft fp L W S c E → Q (-1) M')) : WI 144 [vR 1, vI x1, vI x2, vI x3, vI x4, vI x5] M Q := by
  have p0 := h.2.1.2.2.2.2.1
  have hT := h.2.2.2.2.2.2.2.2.1
  obtain ⟨t0, t1, t2, t3, t4, t5, t6⟩ := hT
  have sh2 : (shA SH 2).1 = 9 := o2.1.2
  refine t_144 o1.1 ?_
  rw [p0]
  refine ⟨sh2, t_122 o2.1 ?_⟩
  rw [t0, t1, o2.2]
  refine ⟨⟨by decide, by decide, by decide, by decide⟩, by omega, by decide, ?_⟩
  by_cases q1 : T.length + 20 ≤ 900
  rotate_left
  · rw [if_pos (by show ((900 : Nat) : Int) < _; omega)]
    refine ⟨0, rfl, by decide, ?_⟩
    rw [if_pos rfl]
    have := hQ M
    rw [if_neg q1] at this
    exact ⟨_, rfl, this h⟩
  rw [if_neg (by show ¬ ((900 : Nat) : Int) < _; omega)]
  refine ⟨1, rfl, by decide, ?_⟩
  rw [if_neg (by decide), p0]
  have l4 : ∀ (A : List Int) (x : Int), (A ++ byte4 x).length = A.length + 4 := fun A x => by unfold byte4; simp
  have e1 : ∀ {N : Mem}, (∀ k : Int, k ≠ 2 → k ≠ 3 → N k = M k) → N 1 0 = 2 := fun {N} g => by rw [g 1 (by decide) (by decide)]; exact p0
  refine ⟨sh2, s123 ⟨t0, t1, t2, t3, t4, t5, t6⟩ (by omega) (fun M1 g1 T1 => ?_)⟩
  rw [e1 g1]
  refine ⟨sh2, s123 T1 (by rw [l4]; omega) (fun M2 g2 T2 => ?_)⟩
  have g02 : ∀ k : Int, k ≠ 2 → k ≠ 3 → M2 k = M k := fun k a b => (g2 k a b).trans (g1 k a b)
  rw [e1 g02]
  refine ⟨sh2, s123 T2 (by rw [l4, l4]; omega) (fun M3 g3 T3 => ?_)⟩
  have g03 : ∀ k : Int, k ≠ 2 → k ≠ 3 → M3 k = M k := fun k a b => (g3 k a b).trans (g02 k a b)
  rw [e1 g03]
  refine ⟨sh2, s123 T3 (by rw [l4, l4, l4]; omega) (fun M4 g4 T4 => ?_)⟩
  have g04 : ∀ k : Int, k ≠ 2 → k ≠ 3 → M4 k = M k := fun k a b => (g4 k a b).trans (g03 k a b)
  rw [e1 g04]
  refine ⟨sh2, s123 T4 (by rw [l4, l4, l4, l4]; omega) (fun M5 g5 T5 => ?_)⟩
  have g05 : ∀ k : Int, k ≠ 2 → k ≠ 3 → M5 k = M k := fun k a b => (g5 k a b).trans (g04 k a b)
  rw [e1 g05, T5.2.1]
  refine ⟨o2.1, _, rfl, ?_⟩
  have := hQ M5
  rw [if_pos q1] at this
  have e20 : ((T ++ byte4 x1 ++ byte4 x2 ++ byte4 x3 ++ byte4 x4 ++ byte4 x5).length : Int) = (T.length : Int) + 20 := by rw [l4, l4, l4, l4, l4]; omega
  rw [e20]
  exact this (h.tp g05 T5)
theorem TapM.push (h : TapM M T ft fp) {b : Int} (hb : 0 ≤ b ∧ b < 256) (hl : T.length < 900) : TapM (upM (upM M 205 T.length b) 204 1 ((T.length : Int) + 1)) (T ++ [b]) ft fp := by
  obtain ⟨t1, t2, t3, t4, t5, t6⟩ := h
  have e2 : ∀ v, upM M 205 T.length v 204 = M 204 := fun v => upM_o (by decide)
  refine ⟨by rw [upM_s, List.length_append]; rfl, by rw [List.length_append, List.length_singleton]; omega, byt_app t3 hb, fun j hj => ?_, by rw [upM_f (by decide), e2]; exact t5, by rw [upM_f (by decide), e2]; exact t6⟩
  rw [List.length_append, List.length_singleton] at hj
  rw [upM_o (by decide), bt_app]
  by_cases e : j = T.length
  · rw [if_neg (by omega), e, upM_s, Nat.sub_self]
    rfl
  · rw [if_pos (by omega), upM_f (by omega)]
    exact t4 j (by omega)
/-- what feed and end leave alone of the model -/
def FrP (M M' : Mem) : Prop := (∀ k : Int, k ≠ 204 → k ≠ 205 → M' k = M k) ∧ ∀ j : Int, j ≠ 1 → M' 204 j = M 204 j
theorem FrP.tr {M M1 M2 : Mem} (h : FrP M M1) (g : FrP M1 M2) : FrP M M2 := ⟨fun k a b => (g.1 k a b).trans (h.1 k a b), fun j a => (g.2 j a).trans (h.2 j a)⟩
theorem FrP.push {v w : Int} {i : Int} : FrP M (upM (upM M 205 i v) 204 1 w) := ⟨fun k a b => by rw [upM_o a, upM_o b], fun j a => by rw [upM_f a, upM_o (by decide)]⟩
theorem MdlS.tp {T' : List Int} {ft' fp' : Int} (h : MdlS M T ft fp L W S c A) (g : FrP M M') (hT : TapM M' T' ft' fp') : MdlS M' T' ft' fp' L W S c A := by
  have hz : FrM M M' ∨ True := Or.inr trivial
  obtain ⟨h1, h2, h3, h4⟩ := h
  have e : ∀ k : Int, k ≠ 204 → k ≠ 205 → M' k = M k := g.1
  have f : ∀ j : Int, j ≠ 1 → M' 204 j = M 204 j := g.2
  obtain ⟨⟨a1, a2, a3, a4, a5⟩, b, d, e4⟩ := h1
  refine ⟨⟨⟨?_, ?_, ?_, ?_, a5⟩, ?_, ?_, ?_⟩, ?_, hT, h4.fr (f 63 (by decide)) (e 231 (by decide) (by decide))⟩
  · intro x hx
    rw [f x.1 (by
      have : ∀ q ∈ mpT, q.1 ≠ 1 := by decide
      exact this x hx)]
    exact a1 x hx
  · unfold MSnd at a2 ⊢
    rw [f 38 (by decide), e 218 (by decide) (by decide), e 219 (by decide) (by decide), e 220 (by decide) (by decide), e 221 (by decide) (by decide)]
    exact a2
  · unfold MTld SegIs at a3 ⊢
    rw [f 39 (by decide), f 40 (by decide), e 222 (by decide) (by decide), e 223 (by decide) (by decide), e 224 (by decide) (by decide)]
    exact a3
  · unfold MNum at a4 ⊢
    rw [f 41 (by decide), f 42 (by decide), f 43 (by decide), f 44 (by decide), f 45 (by decide), f 46 (by decide), f 47 (by decide), e 225 (by decide) (by decide)]
    exact a4
  · unfold MLrn SegIs at b ⊢
    rw [e 230 (by decide) (by decide)]
    exact b
  · unfold MSpk SegIs at d ⊢
    rw [e 226 (by decide) (by decide), e 227 (by decide) (by decide), f 56 (by decide)]
    exact d
  · unfold MCost at e4 ⊢
    rw [e 230 (by decide) (by decide)]
    exact e4
  · unfold MTal TlM at h2 ⊢
    rw [f 84 (by decide), e 245 (by decide) (by decide), e 246 (by decide) (by decide), e 247 (by decide) (by decide), e 248 (by decide) (by decide), e 249 (by decide) (by decide)]
    exact h2
theorem z205 : shA SH 205 = (20, 900) := by decide +kernel
theorem m182 {Q : Mem → Prop} {x : Int} (h : TapM M T ft fp) (hp : M 204 0 = 205) (hx : inR x) (hl : T.length + 4 ≤ 900) (hQ : ∀ M' : Mem, FrP M M' → TapM M' (T ++ byte4 x) ft fp → Q M') : WV 182 [vR 204, vI x] M Q := by
  have step : ∀ (N : Mem) (T : List Int) (s b : Int) (P : AV → Mem → Prop), TapM N T ft fp → N 204 0 = 205 → T.length < 900 → 0 ≤ s → s < 32 → x / 2 ^ s.toNat % 256 = b → WR 182 3 [some (vR 204), some (vI x), some (vI (s + (-8)))] [] (upM (upM N 205 T.length b) 204 1 ((T.length : Int) + 1)) P → WR 182 3 [some (vR 204), some (vI x), some (vI s)] [] N P := by
    intro N T s b P hT hp hl s0 s1 he hP
    obtain ⟨t1, t2, t3, t4, t5, t6⟩ := hT
    refine t_182_3 o204 ⟨by omega, ?_⟩
    have e2 : ∀ v, upM N 205 T.length v 204 1 = T.length := fun v => by rw [upM_o (by decide)]; exact t1
    rw [if_neg (by omega), hp, t1, and32_255, he, e2]
    exact ⟨⟨s0, s1, by omega, by omega⟩, gC z205 (by omega) (by show _ < ((900 : Nat) : Int); omega), hP⟩
  have len4 : byte4 x = [x / 16777216 % 256] ++ ([x / 65536 % 256] ++ ([x / 256 % 256] ++ [x % 256])) := rfl
  have l1 : ∀ (A : List Int) (b : Int), (A ++ [b]).length = A.length + 1 := fun A b => by simp
  rw [len4] at hQ
  have pp : ∀ {N : Mem} {i v w : Int}, N 204 0 = 205 → upM (upM N 205 i v) 204 1 w 204 0 = 205 := fun {N i v w} z => by rw [upM_f (by decide), upM_o (by decide)]; exact z
  have T1 := h.push (b := x / 16777216 % 256) (by omega) (by omega)
  refine t_182 o204 (step M T 24 (x / 16777216 % 256) _ h hp (by omega) (by decide) (by decide) rfl ?_)
  have T2 := T1.push (b := x / 65536 % 256) (by omega) (by rw [l1]; omega)
  refine step _ _ 16 (x / 65536 % 256) _ T1 (pp hp) (by rw [l1]; omega) (by decide) (by decide) rfl ?_
  have T3 := T2.push (b := x / 256 % 256) (by omega) (by rw [l1, l1]; omega)
  refine step _ _ 8 (x / 256 % 256) _ T2 (pp (pp hp)) (by rw [l1, l1]; omega) (by decide) (by decide) rfl ?_
  have T4 := T3.push (b := x % 256) (by omega) (by rw [l1, l1, l1]; omega)
  refine step _ _ 0 (x % 256) _ T3 (pp (pp (pp hp))) (by rw [l1, l1, l1]; omega) (by decide) (by decide) (by rw [show (2 : Int) ^ (0 : Int).toNat = 1 from rfl, Int.ediv_one]) ?_
  refine t_182_3 o204 ⟨by decide, ?_⟩
  rw [if_pos (by decide)]
  refine hQ _ (((FrP.push.tr FrP.push).tr FrP.push).tr FrP.push) ?_
  rw [app4] at T4
  exact T4
theorem mFeed {Q : Int → Mem → Prop} {x1 x2 x3 x4 x5 : Int} (h : MdlS M T ft fp L W S c A) (h1 : inR x1) (h2 : inR x2) (h3 : inR x3) (h4 : inR x4) (h5 : inR x5) (hQ : ∀ M' : Mem, (if T.length + 20 ≤ 900 then MdlS M' (feedT T x1 x2 x3 x4 x5) ft fp L W S c A → Q ((T.length : Int) + 20) M' else MdlS M' T ft fp L W S c A → Q (-1) M')) : WI 181 [vR 204, vI x1, vI x2, vI x3, vI x4, vI x5] M Q := by
  have hT := h.2.2.1
  have p0 : M 204 0 = 205 := h.1.1.1.at (by decide)
  have t1 := hT.1
  have t2 := hT.2.1
  have l4 : ∀ (A : List Int) (x : Int), (A ++ byte4 x).length = A.length + 4 := fun A x => by unfold byte4; simp
  by_cases q1 : T.length + 20 ≤ 900
  rotate_left
  · refine t_181 o204 ?_
    rw [t1]
    refine ⟨by omega, ?_⟩
    rw [if_neg (by omega)]
    have := hQ M
    rw [if_neg q1] at this
    exact ⟨_, rfl, this h⟩
  refine t_181 o204 ?_
  rw [t1]
  refine ⟨by omega, ?_⟩
  rw [if_pos (by omega)]
  refine m182 hT p0 h1 (by omega) (fun M1 g1 T1 => ?_)
  refine m182 T1 (by rw [g1.2 0 (by decide)]; exact p0) h2 (by rw [l4]; omega) (fun M2 g2 T2 => ?_)
  have g02 := g1.tr g2
  refine m182 T2 (by rw [g02.2 0 (by decide)]; exact p0) h3 (by rw [l4, l4]; omega) (fun M3 g3 T3 => ?_)
  have g03 := g02.tr g3
  refine m182 T3 (by rw [g03.2 0 (by decide)]; exact p0) h4 (by rw [l4, l4, l4]; omega) (fun M4 g4 T4 => ?_)
  have g04 := g03.tr g4
  refine m182 T4 (by rw [g04.2 0 (by decide)]; exact p0) h5 (by rw [l4, l4, l4, l4]; omega) (fun M5 g5 T5 => ?_)
  have e20 : ((T ++ byte4 x1 ++ byte4 x2 ++ byte4 x3 ++ byte4 x4 ++ byte4 x5).length : Int) = (T.length : Int) + 20 := by rw [l4, l4, l4, l4, l4]; omega
  rw [T5.1, e20]
  have := hQ M5
  rw [if_pos q1] at this
  exact ⟨_, rfl, this (h.tp (g04.tr g5) T5)⟩
theorem byt_take {n : Nat} (h : byt T) : byt (T.take n) := fun b hb => h b (List.mem_of_mem_take hb)
theorem bt_take {n j : Nat} (h : j < n) : bt (T.take n) j = bt T j := by
  unfold bt
  rw [List.getD_eq_getElem?_getD, List.getD_eq_getElem?_getD, List.getElem?_take_of_lt h]
theorem cEnd {Q : Int → Mem → Prop} {n : Int} (h : ClsS M p p' q q' T ft fp L W S c E) (hn : inR n) (hQ : ∀ M' : Mem, (if 0 ≤ n ∧ n ≤ T.length then ClsS M' p p' q q' (T.take n.toNat) ft fp L W S c E → Q n M' else ClsS M' p p' q q' T ft fp L W S c E → Q (-1) M')) : WI 145 [vR 1, vI n] M Q := by
  have p0 := h.2.1.2.2.2.2.1
  obtain ⟨t0, t1, t2, t3, t4, t5, t6⟩ := h.2.2.2.2.2.2.2.2.1
  refine t_145 o1.1 ⟨hn, ?_⟩
  by_cases q1 : n < 0
  · rw [if_pos q1]
    have := hQ M
    rw [if_neg (by omega)] at this
    exact ⟨_, rfl, this h⟩
  rw [if_neg q1, p0, t1]
  refine ⟨o2.1, by omega, ?_⟩
  by_cases q2 : n ≤ T.length
  · rw [if_pos q2]
    have := hQ (upM M 2 1 n)
    rw [if_pos (by omega)] at this
    have hl : (T.take n.toNat).length = n.toNat := by rw [List.length_take]; omega
    refine ⟨o2.1, _, rfl, this (h.tp (fun k a _ => upM_o a) ⟨by rw [upM_f (by decide)]; exact t0, by rw [upM_s, hl]; omega, by omega, byt_take t3, fun j hj => ?_, by rw [upM_f (by decide)]; exact t5, by rw [upM_f (by decide)]; exact t6⟩)⟩
    rw [hl] at hj
    rw [upM_o (by decide), bt_take hj]
    exact t4 j (by omega)
  · rw [if_neg q2]
    have := hQ M
    rw [if_neg (by omega)] at this
    exact ⟨_, rfl, this h⟩
theorem mEnd {Q : Int → Mem → Prop} {n : Int} (h : MdlS M T ft fp L W S c A) (hn : inR n) (hQ : ∀ M' : Mem, (if 0 ≤ n ∧ n ≤ T.length then MdlS M' (T.take n.toNat) ft fp L W S c A → Q n M' else MdlS M' T ft fp L W S c A → Q (-1) M')) : WI 183 [vR 204, vI n] M Q := by
  obtain ⟨t1, t2, t3, t4, t5, t6⟩ := h.2.2.1
  refine t_183 o204 ?_
  rw [t1, wr_id hn, wr_id (show inR (T.length : Int) by omega), m177 (by omega) (by decide) (by omega)]
  refine ⟨by have := b2i_r (decide (0 ≤ n ∧ n ≤ (T.length : Int))); omega, ?_⟩
  by_cases q2 : 0 ≤ n ∧ n ≤ T.length
  · rw [decide_eq_true q2, if_neg (by decide)]
    have := hQ (upM M 204 1 n)
    rw [if_pos q2] at this
    have hl : (T.take n.toNat).length = n.toNat := by rw [List.length_take]; omega
    refine ⟨_, rfl, this (h.tp ⟨fun k a _ => upM_o a, fun j a => upM_f a⟩ ⟨by rw [upM_s, hl]; omega, by omega, byt_take t3, fun j hj => ?_, by rw [upM_f (by decide)]; exact t5, by rw [upM_f (by decide)]; exact t6⟩)⟩
    rw [hl] at hj
    rw [upM_o (by decide), bt_take hj]
    exact t4 j (by omega)
  · rw [decide_eq_false q2, if_pos (by decide)]
    have := hQ M
    rw [if_neg q2] at this
    exact ⟨_, rfl, this h⟩
end FE
