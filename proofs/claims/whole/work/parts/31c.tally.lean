/-! TALLY and MADE, by the model. -/
def FrT (M M' : Mem) : Prop := (∀ k : Int, k < 232 → k ≠ 204 → M' k = M k) ∧ ∀ j : Int, j ≠ 69 → j ≠ 70 → j ≠ 84 → j ≠ 85 → j ≠ 86 → M' 204 j = M 204 j
theorem FrT.rf {M : Mem} : FrT M M := ⟨fun _ _ _ => rfl, fun _ _ _ _ _ _ => rfl⟩
theorem FrT.tr {M M1 M2 : Mem} (h : FrT M M1) (g : FrT M1 M2) : FrT M M2 := ⟨fun k a b => (g.1 k a b).trans (h.1 k a b), fun j a b c d e => (g.2 j a b c d e).trans (h.2 j a b c d e)⟩
theorem FrM.t {M M' : Mem} (h : FrM M M') : FrT M M' := ⟨fun k a b => h.1 k (Or.inl a) b, fun j a b _ d e => h.2 j a b d e⟩
theorem mp_no4 : ∀ q ∈ mpT, q.1 ≠ 84 := by decide
theorem PtrM.frT {M M' : Mem} (h : PtrM M) (g : FrT M M') : PtrM M' := fun q hq => by
  have := mp_no q hq
  rw [g.2 q.1 this.1 this.2.1 (mp_no4 q hq) this.2.2.1 this.2.2.2]
  exact h q hq
theorem MdlQ.frT {M M' : Mem} {L : Lw} {W S : List (List Int)} {c : Int → Int} (h : MdlQ M L W S c) (g : FrT M M') : MdlQ M' L W S c := by
  have f : ∀ j : Int, j ≠ 69 → j ≠ 70 → j ≠ 84 → j ≠ 85 → j ≠ 86 → M' 204 j = M 204 j := g.2
  have f1 : ∀ j : Int, j < 69 → M' 204 j = M 204 j := fun j a => f j (by omega) (by omega) (by omega) (by omega) (by omega)
  have e : ∀ k : Int, 218 ≤ k → k < 232 → M' k = M k := fun k a b => g.1 k b (by omega)
  obtain ⟨⟨a1, a2, a3, a4, a5⟩, b, d, e4⟩ := h
  refine ⟨⟨a1.frT g, ?_, ?_, ?_, a5⟩, ?_, ?_, ?_⟩
  · unfold MSnd at a2 ⊢
    rw [f1 38 (by decide), e 218 (by decide) (by decide), e 219 (by decide) (by decide), e 220 (by decide) (by decide), e 221 (by decide) (by decide)]
    exact a2
  · unfold MTld SegIs at a3 ⊢
    rw [f1 39 (by decide), f1 40 (by decide), e 222 (by decide) (by decide), e 223 (by decide) (by decide), e 224 (by decide) (by decide)]
    exact a3
  · unfold MNum at a4 ⊢
    rw [f1 41 (by decide), f1 42 (by decide), f1 43 (by decide), f1 44 (by decide), f1 45 (by decide), f1 46 (by decide), f1 47 (by decide), e 225 (by decide) (by decide)]
    exact a4
  · unfold MLrn SegIs at b ⊢
    rw [e 230 (by decide) (by decide)]
    exact b
  · unfold MSpk SegIs at d ⊢
    rw [e 226 (by decide) (by decide), e 227 (by decide) (by decide), f1 56 (by decide)]
    exact d
  · unfold MCost at e4 ⊢
    rw [e 230 (by decide) (by decide)]
    exact e4
/-- a table of the model: where each entry stands -/
def TlM (M : Mem) (W : List (List Int)) (s : Int) (T : Tb) : Prop := M 245 s = T.length ∧ ∀ i : Nat, i < T.length → ∃ j : Nat, j < W.length ∧ M 246 (240 * s + i) = 100 + (j : Int) ∧ 0 ≤ M 247 (240 * s + i) ∧ M 247 (240 * s + i) + M 248 (240 * s + i) ≤ (W.getD j []).length ∧ M 248 (240 * s + i) = (tg T i).1.length ∧ sub (W.getD j []) (M 247 (240 * s + i)) (M 248 (240 * s + i)) = (tg T i).1 ∧ M 249 (240 * s + i) = (tg T i).2
def TlE (M M' : Mem) (s : Int) : Prop := M' 245 s = M 245 s ∧ ∀ i : Int, 240 * s ≤ i → i < 240 * s + 240 → M' 246 i = M 246 i ∧ M' 247 i = M 247 i ∧ M' 248 i = M 248 i ∧ M' 249 i = M 249 i
theorem TlM.up {M M' : Mem} {W : List (List Int)} {s : Int} {T : Tb} (h : TlM M W s T) (hl : T.length ≤ 240) (e : TlE M M' s) : TlM M' W s T := by
  refine ⟨by rw [e.1]; exact h.1, fun i hi => ?_⟩
  obtain ⟨e1, e2, e3, e4⟩ := e.2 (240 * s + i) (by omega) (by omega)
  rw [e1, e2, e3, e4]
  exact h.2 i hi
def MTal (M : Mem) (L : Lw) (W : List (List Int)) : Prop := M 204 84 = 0 ∨ (M 204 84 = 1 ∧ ∀ s : Int, 0 ≤ s → s < 3 → TlM M W s (tal L W s))
theorem MTal.fr {M M' : Mem} {L : Lw} {W : List (List Int)} (h : MTal M L W) (g : FrM M M') : MTal M' L W := by
  unfold MTal TlM at h ⊢
  rw [g.2 84 (by decide) (by decide) (by decide) (by decide), g.1 245 (by decide) (by decide), g.1 246 (by decide) (by decide), g.1 247 (by decide) (by decide), g.1 248 (by decide) (by decide), g.1 249 (by decide) (by decide)]
  exact h
section TM
variable {M : Mem} {s i what : Int} {L : Lw} {W S : List (List Int)} {c : Int → Int} {T : Tb} {X : Ct}
theorem z45 : shA SH 245 = (20, 3) ∧ shA SH 246 = (20, 720) ∧ shA SH 247 = (20, 720) ∧ shA SH 248 = (20, 720) ∧ shA SH 249 = (20, 720) ∧ shA SH 250 = (20, 100) := by decide +kernel
theorem wI {j : Nat} (hj : j < W.length) : WdIs W S (100 + (j : Int)) (W.getD j []) := Or.inr ⟨by omega, by omega, by rw [show 100 + (j : Int) - 100 = j by omega, Int.toNat_natCast]⟩
theorem MdlQ.pT (h : MdlQ M L W S c) : M 204 79 = 245 ∧ M 204 80 = 246 ∧ M 204 81 = 247 ∧ M 204 82 = 248 ∧ M 204 83 = 249 ∧ M 204 87 = 250 ∧ M 204 61 = 230 := ⟨h.1.1.at (by decide), h.1.1.at (by decide), h.1.1.at (by decide), h.1.1.at (by decide), h.1.1.at (by decide), h.1.1.at (by decide), h.1.1.at (by decide)⟩
theorem m284 {Q : Int → Mem → Prop} {j w : Nat} {from' : Int} {x : List Int} (h : MdlQ M L W S c) (s0 : 0 ≤ s) (s1 : s < 3) (hT : TlM M W s T) (hl : T.length ≤ 240) (hj : j < T.length) (hw : w < W.length) (f0 : 0 ≤ from') (f1 : from' + x.length ≤ (W.getD w []).length) (hx : sub (W.getD w []) from' x.length = x) : WI 284 [vR 204, vI (240 * s + j), vI (100 + (w : Int)), vI from', vI x.length] M Q = Q (b2i (decide ((tg T j).1 = x))) M := by
  obtain ⟨p79, p80, p81, p82, p83, -, -⟩ := h.pT
  obtain ⟨z1, z2, z3, z4, z5, -⟩ := z45
  obtain ⟨v, hv, e1, e2, e3, e4, e5, e6⟩ := hT.2 j hj
  have okw := (h.2.1.2.2 w hw).2.2
  have okv := (h.2.1.2.2 v hv).2.2
  have hw12 := okw.2.1
  have hv12 := okv.2.1
  have h20 := h.2.1.2.1
  refine FN.wi (WC.fn (t_284 o204 ?_))
  rw [p82, e4]
  refine ⟨gC z4 (by omega) (by show _ < ((720 : Nat) : Int); omega), by omega, by omega, ?_⟩
  rw [e4] at e3 e5
  by_cases q : ((tg T j).1.length : Int) = x.length
  · rw [if_pos q]
    have gx : ∀ t : Int, 0 ≤ t → t < x.length → gi x t = gi (W.getD w []) (from' + t) := fun t a b => by
      rw [← hx]
      rw [gi_sub f0 a b f1]
    have gy : ∀ t : Int, 0 ≤ t → t < x.length → gi (tg T j).1 t = gi (W.getD v []) (M 247 (240 * s + j) + t) := fun t a b => by
      rw [← e5]
      rw [gi_sub e2 a (by omega) e3]
    have key : ∀ (n t : Nat), t + n = x.length → (∀ u : Int, 0 ≤ u → u < t → gi (tg T j).1 u = gi x u) → WR 284 16 [some (vR 204), some (vI (240 * s + j)), some (vI (100 + (w : Int))), some (vI from'), some (vI x.length), some (vI t)] [] M (fun r M' => r = vI (b2i (decide ((tg T j).1 = x))) ∧ M' = M) := by
      intro n
      induction n with
      | zero =>
        intro t ht he
        refine t_284_16 o204 ⟨by omega, by omega, ?_⟩
        rw [if_pos (by omega), decide_eq_true (gi_ext (by omega) (fun u a b => he u a (by omega)))]
        exact ⟨rfl, rfl⟩
      | succ n ih =>
        intro t ht he
        have a1 := gx t (by omega) (by omega)
        have a2 := gy t (by omega) (by omega)
        have r1 := onl_r (i := M 247 (240 * s + j) + t) h.1.2.2.2.2 okv.2.2 (by omega) (by omega)
        have r2 := onl_r (i := from' + t) h.1.2.2.2.2 okw.2.2 (by omega) (by omega)
        refine t_284_16 o204 ⟨by omega, by omega, ?_⟩
        rw [if_neg (by omega), p80, p81, e1, m222 h.1.1 h.2.1 h.2.2.1 (wI hv) (by omega) (by omega), m222 h.1.1 h.2.1 h.2.2.1 (wI hw) (by omega) (by omega)]
        refine ⟨gC z2 (by omega) (by show _ < ((720 : Nat) : Int); omega), gC z3 (by omega) (by show _ < ((720 : Nat) : Int); omega), by omega, by omega, ?_⟩
        rw [← a1, ← a2]
        by_cases e : gi (tg T j).1 t = gi x t
        · rw [if_pos e]
          exact ih (t + 1) (by omega) (fun u a b => by
            by_cases z : u = t
            · rw [z]; exact e
            · exact he u a (by omega))
        · rw [if_neg e, decide_eq_false (fun z => e (by rw [z]))]
          exact ⟨rfl, rfl⟩
    exact key x.length 0 (by omega) (fun u a b => by omega)
  · rw [if_neg q, decide_eq_false (fun z => q (by rw [z]))]
    exact ⟨rfl, rfl⟩
theorem m283 {Q : Mem → Prop} {w : Nat} {from' : Int} {x : List Int} (h : MdlQ M L W S c) (s0 : 0 ≤ s) (s1 : s < 3) (hT : TlM M W s T) (hl : T.length < 240) (hw : w < W.length) (f0 : 0 ≤ from') (f1 : from' + x.length ≤ (W.getD w []).length) (hx : sub (W.getD w []) from' x.length = x) (hQ : ∀ M' : Mem, (∀ k : Int, k < 245 ∨ 249 < k → M' k = M k) → (∀ u : Int, 0 ≤ u → u < 3 → u ≠ s → TlE M M' u) → TlM M' W s (tAdd T x) → Q M') : WV 283 [vR 204, vI s, vI (100 + (w : Int)), vI from', vI x.length] M Q := by
  obtain ⟨p79, p80, p81, p82, p83, -, -⟩ := h.pT
  obtain ⟨z1, z2, z3, z4, z5, -⟩ := z45
  have h20 := h.2.1.2.1
  have g245 : gA 20 245 s := gC z1 s0 s1
  have fin : ∀ {N : Mem}, (∀ k : Int, k < 245 ∨ 249 < k → N k = M k) → (∀ j : Int, j ≠ s → N 245 j = M 245 j) → (∀ j : Int, ¬ (240 * s ≤ j ∧ j < 240 * s + 240) → N 246 j = M 246 j ∧ N 247 j = M 247 j ∧ N 248 j = M 248 j ∧ N 249 j = M 249 j) → TlM N W s (tAdd T x) → Q N := fun {N} a b d e => hQ N a (fun u u0 u3 un => ⟨b u un, fun j j0 j1 => d j (by omega)⟩) e
  refine t_283 o204 ?_
  rw [p79, hT.1]
  refine ⟨g245, ?_⟩
  have key : ∀ (n i : Nat), i + n = T.length → (∀ j, j < i → (tg T j).1 ≠ x) → WR 283 21 [some (vR 204), some (vI s), some (vI (100 + (w : Int))), some (vI from'), some (vI x.length), some (vI (240 * s + i)), some (vI (240 * s + T.length))] [] M (fun _ M' => Q M') := by
    intro n
    have g6 : ∀ {i : Int}, 0 ≤ i → i < 240 → gA 20 246 (240 * s + i) := fun {i} a b => gC z2 (by omega) (by show _ < ((720 : Nat) : Int); omega)
    have g7 : ∀ {i : Int}, 0 ≤ i → i < 240 → gA 20 247 (240 * s + i) := fun {i} a b => gC z3 (by omega) (by show _ < ((720 : Nat) : Int); omega)
    have g8 : ∀ {i : Int}, 0 ≤ i → i < 240 → gA 20 248 (240 * s + i) := fun {i} a b => gC z4 (by omega) (by show _ < ((720 : Nat) : Int); omega)
    have g9 : ∀ {i : Int}, 0 ≤ i → i < 240 → gA 20 249 (240 * s + i) := fun {i} a b => gC z5 (by omega) (by show _ < ((720 : Nat) : Int); omega)
    have n0 : (204 : Int) ≠ 246 := by decide
    have n1 : (204 : Int) ≠ 247 := by decide
    have n2 : (204 : Int) ≠ 248 := by decide
    have n3 : (204 : Int) ≠ 249 := by decide
    have n4 : (204 : Int) ≠ 245 := by decide
    have n5 : (245 : Int) ≠ 246 := by decide
    have n6 : (245 : Int) ≠ 247 := by decide
    have n7 : (245 : Int) ≠ 248 := by decide
    have n8 : (245 : Int) ≠ 249 := by decide
    have n9 : (249 : Int) ≠ 245 := by decide
    induction n with
    | zero =>
      intro i hi hn
      have ei : i = T.length := by omega
      have et := tAdd_no T x (by rw [← ei]; exact hn)
      refine t_283_21 o204 ⟨by omega, by omega, ?_⟩
      rw [if_pos (by omega), if_pos (by omega)]
      simp only [p79, p80, p81, p82, p83, hT.1, upM_o n0, upM_o n1, upM_o n2, upM_o n3, upM_o n4, upM_o n5, upM_o n6, upM_o n7, upM_o n8, upM_o n9, upM_s]
      refine ⟨g6 (by omega) (by omega), g7 (by omega) (by omega), g8 (by omega) (by omega), g9 (by omega) (by omega), g245, g245, g9 (by omega) (by omega), g9 (by omega) (by omega), ?_⟩
      refine fin (fun k z => ?_) (fun j z => ?_) (fun j z => ?_) ⟨?_, fun j hj => ?_⟩
      · rw [upM_o (by omega), upM_o (by omega), upM_o (by omega), upM_o (by omega), upM_o (by omega), upM_o (by omega)]
      · rw [upM_o n8, upM_f z, upM_o n8, upM_o n7, upM_o n6, upM_o n5]
      · refine ⟨?_, ?_, ?_, ?_⟩
        · rw [upM_o (by decide), upM_o (by decide), upM_o (by decide), upM_o (by decide), upM_o (by decide), upM_f (by omega)]
        · rw [upM_o (by decide), upM_o (by decide), upM_o (by decide), upM_o (by decide), upM_f (by omega), upM_o (by decide)]
        · rw [upM_o (by decide), upM_o (by decide), upM_o (by decide), upM_f (by omega), upM_o (by decide), upM_o (by decide)]
        · rw [upM_f (by omega), upM_o (by decide), upM_f (by omega), upM_o (by decide), upM_o (by decide), upM_o (by decide)]
      · rw [upM_o n8, upM_s, et, List.length_append]
        rfl
      · rw [et] at hj ⊢
        rw [List.length_append, List.length_singleton] at hj
        have en : ∀ t : Nat, t < T.length → tg (T ++ [(x, 1)]) t = tg T t := fun t ht => by
          unfold tg
          rw [List.getD_eq_getElem?_getD, List.getD_eq_getElem?_getD, List.getElem?_append_left ht]
        have v6 : ∀ t : Int, upM (upM (upM (upM (upM (upM M 246 (240 * s + i) (100 + (w : Int))) 247 (240 * s + i) from') 248 (240 * s + i) x.length) 249 (240 * s + i) 0) 245 s (T.length + 1)) 249 (240 * s + i) (0 + 1) 246 t = upM M 246 (240 * s + i) (100 + (w : Int)) 246 t := fun t => by rw [upM_o (by decide), upM_o (by decide), upM_o (by decide), upM_o (by decide), upM_o (by decide)]
        have v7 : ∀ t : Int, upM (upM (upM (upM (upM (upM M 246 (240 * s + i) (100 + (w : Int))) 247 (240 * s + i) from') 248 (240 * s + i) x.length) 249 (240 * s + i) 0) 245 s (T.length + 1)) 249 (240 * s + i) (0 + 1) 247 t = upM M 247 (240 * s + i) from' 247 t := fun t => by
          rw [upM_o (by decide), upM_o (by decide), upM_o (by decide), upM_o (by decide)]
          unfold upM
          rw [if_neg (show ¬ ((247 : Int) = 246 ∧ t = 240 * s + i) from fun z => absurd z.1 (by decide))]
        have v8 : ∀ t : Int, upM (upM (upM (upM (upM (upM M 246 (240 * s + i) (100 + (w : Int))) 247 (240 * s + i) from') 248 (240 * s + i) x.length) 249 (240 * s + i) 0) 245 s (T.length + 1)) 249 (240 * s + i) (0 + 1) 248 t = upM M 248 (240 * s + i) x.length 248 t := fun t => by
          rw [upM_o (by decide), upM_o (by decide), upM_o (by decide)]
          by_cases z : t = 240 * s + i
          · rw [z, upM_s, upM_s]
          · rw [upM_f z, upM_f z, upM_o (by decide), upM_o (by decide)]
        have v9 : ∀ t : Int, upM (upM (upM (upM (upM (upM M 246 (240 * s + i) (100 + (w : Int))) 247 (240 * s + i) from') 248 (240 * s + i) x.length) 249 (240 * s + i) 0) 245 s (T.length + 1)) 249 (240 * s + i) (0 + 1) 249 t = upM M 249 (240 * s + i) 1 249 t := fun t => by
          by_cases z : t = 240 * s + i
          · rw [z, upM_s, upM_s]; rfl
          · rw [upM_f z, upM_f z, upM_o (by decide), upM_f z, upM_o (by decide), upM_o (by decide), upM_o (by decide)]
        rw [v6, v7, v8, v9]
        by_cases e : j = i
        · have el : tg (T ++ [(x, 1)]) j = (x, 1) := by
            unfold tg
            rw [e, ei, List.getD_eq_getElem?_getD, List.getElem?_append_right (Nat.le_refl _), Nat.sub_self]
            rfl
          rw [el, e, upM_s, upM_s, upM_s, upM_s]
          exact ⟨w, hw, rfl, f0, f1, rfl, hx, rfl⟩
        · rw [en j (by omega), upM_f (by omega), upM_f (by omega), upM_f (by omega), upM_f (by omega)]
          exact hT.2 j (by omega)
    | succ n ih =>
      intro i hi hn
      obtain ⟨v, hv, e1, e2, e3, e4, e5, e6⟩ := hT.2 i (by omega)
      refine t_283_21 o204 ⟨by omega, by omega, ?_⟩
      rw [if_neg (by omega), m284 h s0 s1 hT (by omega) (by omega) hw f0 f1 hx]
      refine ⟨by have := b2i_r (decide ((tg T i).1 = x)); omega, ?_⟩
      by_cases e : (tg T i).1 = x
      · rw [decide_eq_true e, if_neg (by decide), if_neg (by omega), p83]
        have et := tAdd_at T x i (by omega) e hn
        refine ⟨g9 (by omega) (by omega), g9 (by omega) (by omega), ?_⟩
        refine fin (fun k z => upM_o (by omega)) (fun j z => by rw [upM_o n8]) (fun j z => ⟨by rw [upM_o (by decide)], by rw [upM_o (by decide)], by rw [upM_o (by decide)], by rw [upM_f (by omega)]⟩) ⟨?_, fun j hj => ?_⟩
        · rw [upM_o n8, et.1]
          exact hT.1
        · rw [et.1] at hj
          rw [et.2 j, upM_o (show (246 : Int) ≠ 249 by decide), upM_o (show (247 : Int) ≠ 249 by decide), upM_o (show (248 : Int) ≠ 249 by decide)]
          by_cases q : j = i
          · rw [if_pos q, q, upM_s, e6]
            refine ⟨v, hv, e1, e2, e3, ?_, ?_, rfl⟩
            · rw [e4, e]
            · rw [e5, e]
          · rw [if_neg q, upM_f (by omega)]
            exact hT.2 j hj
      · rw [decide_eq_false e, if_pos (by decide), show 240 * s + (i : Int) + 1 = 240 * s + ((i + 1 : Nat) : Int) by omega]
        exact ih (i + 1) (by omega) (fun j hj => by
          by_cases q : j = i
          · rw [q]; exact e
          · exact hn j (by omega))
  have := key T.length 0 (by omega) (fun j hj => by omega)
  rw [show 240 * s + ((0 : Nat) : Int) = 240 * s by omega] at this
  exact this
theorem MCut.t {N : Mem} (h : MCut M L W X) (g : ∀ k : Int, k < 245 → N k = M k) : MCut N L W X := by
  have hf : ∀ {A : Prop}, A → A := fun a => a
  obtain ⟨⟨a1, a2, a3, a4, a5, a6, a7, a8⟩, b1, b2⟩ := h
  have e : ∀ k : Int, k < 245 → N k = M k := g
  refine ⟨⟨?_, ?_, by rw [e 204 (by decide)]; exact a3, by rw [e 204 (by decide)]; exact a4, ?_, a6, a7, ?_⟩, ?_, b2⟩
  · refine ⟨fun q hq => by rw [e 204 (by decide)]; exact a1.1 q hq, ?_, ?_, ?_, a1.2.2.2.2⟩
    · have := a1.2.1
      unfold MSnd at this ⊢
      rw [e 204 (by decide), e 218 (by decide), e 219 (by decide), e 220 (by decide), e 221 (by decide)]
      exact this
    · have := a1.2.2.1
      unfold MTld SegIs at this ⊢
      rw [e 204 (by decide), e 222 (by decide), e 223 (by decide), e 224 (by decide)]
      exact this
    · have := a1.2.2.2.1
      unfold MNum at this ⊢
      rw [e 204 (by decide), e 225 (by decide)]
      exact this
  · unfold MLrn SegIs at a2 ⊢
    rw [e 230 (by decide)]
    exact a2
  · unfold SegIs at a5 ⊢
    rw [e 232 (by decide)]
    exact a5
  · rw [e 233 (by decide), e 234 (by decide)]
    exact a8
  · rw [e 235 (by decide)]
    exact b1
theorem MdlQ.tb (h : MdlQ M L W S c) : ((∀ s : Int, (tal L W s).length ≤ 240) ∧ (∀ s : Int, tsum (tal L W s) = allSyl L W) ∧ (∀ s : Int, ∀ e ∈ tal L W s, 1 ≤ e.2) ∧ 0 ≤ allSyl L W ∧ allSyl L W ≤ 240) ∧ ∀ s : Int, TOk s (tal L W s) := by
  have hon : ∀ i : Nat, i < W.length → dg (W.getD i []) ∧ (W.getD i []).length ≤ 12 := fun i hi => ⟨onl_dg h.1.2.2.2.2 (h.2.1.2.2 i hi).2.2.2.2, (h.2.1.2.2 i hi).2.2.2.1⟩
  exact ⟨tal_b h.1.2.2.2.2 hon h.2.1.2.1, tal_ok hon⟩
/-- the three tables -/
def TlN (M : Mem) (W : List (List Int)) (t : Int → Tb) : Prop := ∀ s : Int, 0 ≤ s → s < 3 → TlM M W s (t s)
theorem m285 {Q : Mem → Prop} (h : MdlQ M L W S c) (hM : MTal M L W) (hQ : ∀ M' : Mem, FrT M M' → M' 204 84 = 1 → TlN M' W (tal L W) → Q M') : WV 285 [vR 204] M Q := by
  have h20 := h.2.1.2.1
  have hw := h.1.2.2.2.2
  obtain ⟨z1, z2, z3, z4, z5, -⟩ := z45
  refine t_285 o204 ?_
  rcases hM with h0 | ⟨h1, hT⟩
  rotate_left
  · rw [h1]
    exact ⟨by decide, by rw [if_neg (by decide)]; exact hQ M FrT.rf h1 hT⟩
  rw [h0]
  refine ⟨by decide, ?_⟩
  rw [if_pos rfl]
  have lp : ∀ (n i : Nat) (t : Int → Tb) (l2 : Option AV) (N : Mem), i + n = W.length → FrT M N → N 204 84 = 1 → TlN N W t → (∀ s : Int, 0 ≤ s → s < 3 → (t s).length ≤ 12 * i) → (∀ M' : Mem, FrT M M' → M' 204 84 = 1 → TlN M' W (fun s => tlW L W s n i (t s)) → Q M') → WR 285 36 [some (vR 204), some (vI (100 + (i : Int))), l2] [] N (fun _ M' => Q M') := by
    intro n
    induction n with
    | zero =>
      intro i t l2 N hi g h84 hT hl hQ
      have hN := h.frT g
      refine t_285_36 o204 ?_
      rw [hN.pT.2.2.2.2.2.2, hN.2.1.1]
      refine ⟨gC z230 (by decide) (by decide), by omega, by omega, ?_⟩
      rw [if_pos (by omega)]
      exact hQ N g h84 hT
    | succ n ih =>
      intro i t l2 N hi g h84 hT hl hQ
      have hN := h.frT g
      have hd : WdIs W S (100 + (i : Int)) (W.getD i []) := wI (by omega)
      have ok := (hd.ok h.2.1 h.2.2.1).1
      have h12 := ok.2.1
      refine t_285_36 o204 ?_
      rw [hN.pT.2.2.2.2.2.2, hN.2.1.1]
      refine ⟨gC z230 (by decide) (by decide), by omega, by omega, ?_⟩
      rw [if_neg (by omega)]
      refine m227 hN.1 hN.2.1 hN.2.2.1 hd (fun N1 g1 hX => ?_)
      refine m238 hX ⟨rfl, rfl⟩ (X0_g L _ h12) (fun N2 g2 hP => ?_)
      have gM := g1.tr (frm35 (fun k a _ => g2 k a))
      have g02 := g.tr gM.t
      have hH : HOk (XWi L W i) := hP.1.2.2.2.2.2.2.1
      have hG : GOk (XWi L W i) := hP.2.2.1
      have hdg : dg (Xl (XWi L W i)) := onl_dg hw hP.1.2.2.2.2.2.1
      have c12 : cnt (XWi L W i) ≤ 12 := hH.1
      have cl : cnt (XWi L W i) = (XWi L W i).2.1.length := rfl
      have eXl : Xl (XWi L W i) = W.getD i [] := rfl
      have hXn : Xn (XWi L W i) = (W.getD i []).length := rfl
      have h842 : N2 204 84 = 1 := by rw [gM.2 84 (by decide) (by decide) (by decide) (by decide)]; exact h84
      have hT2 : TlN N2 W t := fun s a b => (hT s a b).up (by have := hl s a b; omega) ⟨by rw [gM.1 245 (by decide) (by decide)], fun j _ _ => ⟨by rw [gM.1 246 (by decide) (by decide)], by rw [gM.1 247 (by decide) (by decide)], by rw [gM.1 248 (by decide) (by decide)], by rw [gM.1 249 (by decide) (by decide)]⟩⟩
      have inner : ∀ (m : Nat) (k : Int) (t : Int → Tb) (N3 : Mem), 0 ≤ k → k + m = cnt (XWi L W i) → FrT M N3 → N3 204 84 = 1 → MCut N3 L W (XWi L W i) → TlN N3 W t → (∀ s : Int, 0 ≤ s → s < 3 → (t s).length + (m : Int) ≤ 12 * ((i : Int) + 1)) → (∀ M' : Mem, FrT M M' → M' 204 84 = 1 → TlN M' W (fun s => tlW L W s n (i + 1) (tlK (XWi L W i) s m k (t s))) → Q M') → WR 285 60 [some (vR 204), some (vI (100 + (i : Int))), some (vI k)] [] N3 (fun _ M' => Q M') := by
        intro m
        induction m with
        | zero =>
          intro k t N3 k0 km g3 h843 hC hT3 hl3 hQ3
          have e70 : N3 204 70 = cnt (XWi L W i) := hC.1.2.2.2.1
          refine t_285_60 o204 ?_
          rw [e70]
          refine ⟨by omega, by omega, ?_⟩
          rw [if_pos (by omega), show 100 + (i : Int) + 1 = 100 + ((i + 1 : Nat) : Int) by omega]
          exact ih (i + 1) t _ N3 (by omega) g3 h843 hT3 (fun s a b => by have := hl3 s a b; omega) hQ3
        | succ m ihm =>
          intro k t N3 k0 km g3 h843 hC hT3 hl3 hQ3
          have e70 : N3 204 70 = cnt (XWi L W i) := hC.1.2.2.2.1
          have k1 : k < cnt (XWi L W i) := by omega
          have l0 := hl3 0 (by decide) (by decide)
          have l1 := hl3 1 (by decide) (by decide)
          have l2 := hl3 2 (by decide) (by decide)
          have hh := hen_r hH k0 k1
          have hb := beh_r hH k0 k1
          have hcl := cls_r hH hG k0 k1
          have hcz := csz_r hH hG k0 k1
          have fh : hen (XWi L W i) k = hst (XWi L W i) k + hsz (XWi L W i) k := rfl
          have fo : osz (XWi L W i) k = hst (XWi L W i) k - ofr (XWi L W i) k := rfl
          have xc0 : Xc (XWi L W i) = 0 := rfl
          have ho : 0 ≤ ofr (XWi L W i) k ∧ ofr (XWi L W i) k ≤ hst (XWi L W i) k := by
            rcases ofr_r hH hG k0 k1 with q | q
            · omega
            · exact q.2
          have stp : ∀ (N4 : Mem) (t2 : Int → Tb) (s from' n' : Int) (P : Mem → Prop), 0 ≤ s → s < 3 → FrT M N4 → N4 204 84 = 1 → MCut N4 L W (XWi L W i) → TlN N4 W t2 → ((t2 s).length : Int) < 240 → (∀ u : Int, 0 ≤ u → u < 3 → (t2 u).length ≤ 240) → 0 ≤ from' → 0 ≤ n' → from' + n' ≤ (W.getD i []).length → sub (W.getD i []) from' n' = part3 (XWi L W i) s k → (∀ N5 : Mem, FrT M N5 → N5 204 84 = 1 → MCut N5 L W (XWi L W i) → TlN N5 W (fun u => if u = s then tAdd (t2 s) (part3 (XWi L W i) s k) else t2 u) → P N5) → WV 283 [vR 204, vI s, vI (100 + (i : Int)), vI from', vI n'] N4 P := by
            intro N4 t2 s from' n' P s0 s3 g4 h84' hC4 hT4 hlt hle f0 n0 fn hx hP
            have hlen := sub_len (l := W.getD i []) f0 n0 fn
            rw [hx] at hlen
            have := m283 (Q := P) (h.frT g4) s0 s3 (hT4 s s0 s3) (by omega) (show i < W.length by omega) f0 (x := part3 (XWi L W i) s k) (by omega) (by rw [hlen]; exact hx) (fun N5 g5 o5 hT5 => by
              have e5 : ∀ q : Int, q < 245 → N5 q = N4 q := fun q z => g5 q (Or.inl z)
              refine hP N5 (g4.tr ⟨fun q a _ => e5 q (by omega), fun j _ _ _ _ _ => by rw [e5 204 (by decide)]⟩) (by rw [e5 204 (by decide)]; exact h84') (hC4.t e5) (fun u u0 u3 => ?_)
              try dsimp only
              by_cases q : u = s
              · rw [if_pos q, q]; exact hT5
              · rw [if_neg q]
                exact (hT4 u u0 u3).up (hle u u0 u3) (o5 u u0 u3 q))
            rw [hlen] at this
            exact this
          refine t_285_60 o204 ?_
          rw [e70]
          refine ⟨by omega, by omega, ?_⟩
          rw [if_neg (by omega), m239 hC k0 k1, m240 hC k0 k1]
          refine stp N3 t 0 _ _ _ (by decide) (by decide) g3 h843 hC hT3 (by omega) (fun u a b => by have := hl3 u a b; omega) ho.1 (by omega) (by omega) ?_ (fun N5 g5 h845 hC5 hT5 => ?_)
          · unfold part3
            rw [if_pos rfl, okl_0 xc0]
            rfl
          rw [hC5.1.p.2.1, hC5.1.p.2.2.1, (hC5.1.2.2.2.2.2.2.2 k k0 k1).1, (hC5.1.2.2.2.2.2.2.2 k k0 k1).2]
          refine ⟨gC zC.2.1 k0 (by show _ < ((12 : Nat) : Int); omega), gC zC.2.2.1 k0 (by show _ < ((12 : Nat) : Int); omega), ?_⟩
          have ta0 := tAdd_len (t 0) (part3 (XWi L W i) 0 k)
          refine stp N5 _ 1 _ _ _ (by decide) (by decide) g5 h845 hC5 hT5 (by rw [if_neg (by decide)]; omega) (fun u a b => by
            by_cases q : u = 0
            · rw [if_pos q]; omega
            · rw [if_neg q]; have := hl3 u a b; omega) (by omega) (by omega) (by omega) (by unfold part3; rw [if_neg (by decide), if_pos rfl]; rfl) (fun N6 g6 h846 hC6 hT6 => ?_)
          rw [m229 hC6.1 k0 k1, m241 hC6 k0 k1]
          have ta1 := tAdd_len (t 1) (part3 (XWi L W i) 1 k)
          refine stp N6 _ 2 _ _ _ (by decide) (by decide) g6 h846 hC6 hT6 (by rw [if_neg (by decide), if_neg (by decide)]; omega) (fun u a b => by
            by_cases q : u = 1
            · rw [if_pos q, if_neg (by decide)]; omega
            · rw [if_neg q]
              by_cases q0 : u = 0
              · rw [if_pos q0]; omega
              · rw [if_neg q0]; have := hl3 u a b; omega) (by omega) (by omega) (by omega) (by unfold part3; rw [if_neg (by decide), if_neg (by decide)]; rfl) (fun N7 g7 h847 hC7 hT7 => ?_)
          refine ihm (k + 1) (fun s => tAdd (t s) (part3 (XWi L W i) s k)) N7 (by omega) (by omega) g7 h847 hC7 (fun s s0 s3 => ?_) (fun s s0 s3 => ?_) hQ3
          · have := hT7 s s0 s3
            have e : (if s = 2 then tAdd (if (2 : Int) = 1 then tAdd (if (1 : Int) = 0 then tAdd (t 0) (part3 (XWi L W i) 0 k) else t 1) (part3 (XWi L W i) 1 k) else if (2 : Int) = 0 then tAdd (t 0) (part3 (XWi L W i) 0 k) else t 2) (part3 (XWi L W i) 2 k) else if s = 1 then tAdd (if (1 : Int) = 0 then tAdd (t 0) (part3 (XWi L W i) 0 k) else t 1) (part3 (XWi L W i) 1 k) else if s = 0 then tAdd (t 0) (part3 (XWi L W i) 0 k) else t s) = tAdd (t s) (part3 (XWi L W i) s k) := by
              have : s = 0 ∨ s = 1 ∨ s = 2 := by omega
              rcases this with rfl | rfl | rfl <;> rfl
            try dsimp only at this ⊢
            rw [e] at this
            exact this
          · have := tAdd_len (t s) (part3 (XWi L W i) s k)
            have := hl3 s s0 s3
            try dsimp only
            omega
      exact inner (XWi L W i).2.1.length 0 t N2 (by omega) (by omega) g02 h842 hP hT2 (fun s a b => by have := hl s a b; omega) hQ
  have st : ∀ (n i : Nat) (N : Mem), i + n = 3 → FrT M N → N 204 84 = 1 → (∀ j : Nat, j < i → N 245 j = 0) → WR 285 15 [some (vR 204), some (vI i), none] [] N (fun _ M' => Q M') := by
    intro n
    induction n with
    | zero =>
      intro i N hi g h84 hz
      refine t_285_15 o204 ⟨by omega, ?_⟩
      rw [if_pos (by omega)]
      refine lp W.length 0 (fun _ => []) none N (by omega) g h84 (fun s a b => ⟨?_, fun j hj => absurd hj (Nat.not_lt_zero _)⟩) (fun s a b => Nat.zero_le _) (fun M' g' h' hT => hQ M' g' h' hT)
      have := hz s.toNat (by omega)
      rw [show ((s.toNat : Nat) : Int) = s by omega] at this
      exact this
    | succ n ih =>
      intro i N hi g h84 hz
      have hN := h.frT g
      refine t_285_15 o204 ⟨by omega, ?_⟩
      rw [if_neg (by omega), hN.pT.1]
      refine ⟨gC z1 (by omega) (by show _ < ((3 : Nat) : Int); omega), ih (i + 1) _ (by omega) (g.tr ⟨fun k a _ => upM_o (by omega), fun j _ _ _ _ _ => by rw [upM_o (by decide)]⟩) (by rw [upM_o (by decide)]; exact h84) (fun j hj => ?_)⟩
      by_cases e : j = i
      · rw [e, upM_s]
      · rw [upM_f (by omega)]
        exact hz j (by omega)
  exact st 3 0 _ (by omega) ⟨fun k a b => upM_o b, fun j _ _ a _ _ => upM_f a⟩ upM_s (fun j hj => by omega)
theorem mTally {Q : Int → Mem → Prop} (h : MdlQ M L W S c) (hM : MTal M L W) (hs : inR s) (hi : inR i) (hwt : inR what) (hQ : ∀ M' : Mem, FrT M M' → MTal M' L W → Q (aTally L W s i what) M') : WI 286 [vR 204, vI s, vI i, vI what] M Q := by
  obtain ⟨z1, z2, z3, z4, z5, -⟩ := z45
  obtain ⟨tb, tok⟩ := h.tb
  unfold aTally at hQ
  refine t_286 o204 ?_
  rw [wr_id hs, m177 (by omega) (by decide) (by decide)]
  refine ⟨by have := b2i_r (decide (0 ≤ s ∧ s ≤ 2)); omega, ?_⟩
  by_cases q1 : 0 ≤ s ∧ s ≤ 2
  rotate_left
  · rw [if_neg (by omega)] at hQ
    rw [decide_eq_false q1, if_pos (by decide)]
    exact ⟨_, rfl, hQ M FrT.rf hM⟩
  rw [if_pos (by omega)] at hQ
  rw [decide_eq_true q1, if_neg (by decide)]
  refine m285 h hM (fun M1 g1 h84 hT => ⟨hi, ?_⟩)
  have h1 := h.frT g1
  have fin := hQ M1 g1 (Or.inr ⟨h84, hT⟩)
  have hTs := hT s q1.1 (by omega)
  have l240 := tb.1 s
  obtain ⟨p79, p80, p81, p82, p83, -, -⟩ := h1.pT
  rw [p79, hTs.1]
  by_cases q3 : i = -1
  · rw [if_pos q3] at fin ⊢
    exact ⟨gC z1 q1.1 (by show _ < ((3 : Nat) : Int); omega), _, rfl, fin⟩
  rw [if_neg q3] at fin ⊢
  rw [wr_id hi, wr_id (show inR (((tal L W s).length : Int) - 1) by omega), m177 (by omega) (by decide) (by omega)]
  refine ⟨gC z1 q1.1 (by show _ < ((3 : Nat) : Int); omega), by have := b2i_r (decide (0 ≤ i ∧ i ≤ ((tal L W s).length : Int) - 1)); omega, ?_⟩
  by_cases q4 : 0 ≤ i ∧ i ≤ ((tal L W s).length : Int) - 1
  rotate_left
  · rw [decide_eq_false q4, if_pos (by decide)]
    by_cases q5 : i < 0
    · rw [if_pos q5] at fin; exact ⟨_, rfl, fin⟩
    · rw [if_neg q5, if_pos (by omega)] at fin; exact ⟨_, rfl, fin⟩
  rw [if_neg (by omega), if_neg (by omega)] at fin
  rw [decide_eq_true q4, if_neg (by decide)]
  refine ⟨hwt, ?_⟩
  by_cases q6 : what < 0
  · rw [if_pos q6] at fin
    rw [if_neg (by omega)]
    exact ⟨_, rfl, fin⟩
  rw [if_neg q6] at fin
  rw [if_pos (show 0 ≤ what by omega)]
  obtain ⟨j, hj, e1, e2, e3, e4, e5, e6⟩ := hTs.2 i.toNat (by omega)
  rw [show ((i.toNat : Nat) : Int) = i by omega] at e1 e2 e3 e4 e5 e6
  have okT := tok s _ (tg_mem (T := tal L W s) (i := i.toNat) (by omega))
  have b12 := bd3_12 s
  have g4 : ∀ {n : Nat} {a : Int}, shA SH a = (20, 720) → gA 20 a (240 * s + i) := fun {n a} z => gC z (by omega) (by show _ < ((720 : Nat) : Int); omega)
  by_cases w2 : 2 ≤ what
  · rw [if_neg (by omega), if_neg (by omega)] at fin
    rw [if_pos w2, p82, p80, p81, e1, e4]
    refine ⟨gC z4 (by omega) (by show _ < ((720 : Nat) : Int); omega), by omega, by omega, ?_⟩
    by_cases q7 : ((tg (tal L W s) i.toNat).1.length : Int) ≤ what - 2
    · rw [if_pos q7]
      rw [gi_out (Or.inr q7)] at fin
      exact ⟨_, rfl, fin⟩
    · rw [if_neg q7]
      have okj := (h.2.1.2.2 j hj).2.2
      have h12j := okj.2.1
      rw [e4] at e3 e5
      rw [show M1 247 (240 * s + i) + what - 2 = M1 247 (240 * s + i) + (what - 2) by omega, m222 h1.1.1 h1.2.1 h1.2.2.1 (wI hj) (by omega) (by omega)]
      have eg : gi (W.getD j []) (M1 247 (240 * s + i) + (what - 2)) = gi (tg (tal L W s) i.toNat).1 (what - 2) := by
        rw [← e5, gi_sub e2 (by omega) (by omega) (by omega)]
      rw [eg]
      exact ⟨gC z2 (by omega) (by show _ < ((720 : Nat) : Int); omega), gC z3 (by omega) (by show _ < ((720 : Nat) : Int); omega), _, rfl, fin⟩
  · rw [if_neg w2]
    by_cases w0 : what = 0
    · rw [if_pos w0] at fin ⊢
      rw [p83, e6]
      exact ⟨gC z5 (by omega) (by show _ < ((720 : Nat) : Int); omega), _, rfl, fin⟩
    · rw [if_neg w0, if_pos (by omega)] at fin
      rw [if_neg w0, p82, e4]
      exact ⟨gC z4 (by omega) (by show _ < ((720 : Nat) : Int); omega), _, rfl, fin⟩
theorem tsum_drop {T : Tb} {j : Nat} (h : j < T.length) : tsum (T.drop j) = (tg T j).2 + tsum (T.drop (j + 1)) := by
  have e : T.drop j = tg T j :: T.drop (j + 1) := by
    unfold tg
    rw [List.getD_eq_getElem?_getD, List.getElem?_eq_getElem h]
    exact (List.getElem_cons_drop h).symm
  rw [e]
  rfl
theorem m287 {Q : Int → Mem → Prop} (h : MdlQ M L W S c) (hT : TlN M W (tal L W)) : WI 287 [vR 204] M Q = Q (allSyl L W) M := by
  obtain ⟨z1, z2, z3, z4, z5, -⟩ := z45
  obtain ⟨tb, tok⟩ := h.tb
  obtain ⟨p79, p80, p81, p82, p83, -, -⟩ := h.pT
  have hT1 := hT 1 (by decide) (by decide)
  have l240 := tb.1 1
  have key : ∀ (n j : Nat) (a : Int) (P : AV → Mem → Prop), j + n = (tal L W 1).length → P (vI (a + tsum ((tal L W 1).drop j))) M → WR 287 4 [some (vR 204), some (vI a), some (vI j)] [] M P := by
    intro n
    induction n with
    | zero =>
      intro j a P hj hP
      refine t_287_4 o204 ?_
      rw [p79, hT1.1]
      refine ⟨gC z1 (by decide) (by decide), by omega, by omega, ?_⟩
      rw [if_pos (by omega)]
      rw [List.drop_eq_nil_of_le (by omega), show tsum [] = 0 from rfl, Int.add_zero] at hP
      exact hP
    | succ n ih =>
      intro j a P hj hP
      obtain ⟨v, hv, e1, e2, e3, e4, e5, e6⟩ := hT1.2 j (by omega)
      rw [show 240 * (1 : Int) + (j : Int) = 240 + j by omega] at e6
      refine t_287_4 o204 ?_
      rw [p79, hT1.1, p83, e6]
      refine ⟨gC z1 (by decide) (by decide), by omega, by omega, ?_⟩
      rw [if_neg (by omega)]
      rw [tsum_drop (by omega), ← Int.add_assoc] at hP
      exact ⟨gC z5 (by omega) (by show _ < ((720 : Nat) : Int); omega), ih (j + 1) _ P (by omega) hP⟩
  refine FN.wi (WC.fn (t_287 o204 (key (tal L W 1).length 0 0 _ (by omega) ⟨?_, rfl⟩)))
  rw [List.drop_zero, tb.2.1, Int.zero_add]
theorem m288 {Q : Mem → Prop} {d : Int} {row : List Int} (h : MdlQ M L W S c) (hT : TlN M W (tal L W)) (s0 : 0 ≤ s) (s1 : s < 3) (hpos : 0 < allSyl L W) (hd : M 204 85 = d) (hm : M 204 86 = row.length) (hrow : ∀ j : Int, 0 ≤ j → j < row.length → M 250 j = gi row j) (hr : (row.length : Int) + bd3 s ≤ 100) (hQ : ∀ M' : Mem, (∀ k : Int, k ≠ 204 → k ≠ 250 → M' k = M k) → (∀ j : Int, j ≠ 85 → j ≠ 86 → M' 204 j = M 204 j) → M' 204 85 = d * 1103515245 + 12345 → M' 204 86 = (row ++ pick (tal L W s) (((d * 1103515245 + 12345) % 4294967296 / 65536).tmod (allSyl L W))).length → (∀ j : Int, 0 ≤ j → j < (row ++ pick (tal L W s) (((d * 1103515245 + 12345) % 4294967296 / 65536).tmod (allSyl L W))).length → M' 250 j = gi (row ++ pick (tal L W s) (((d * 1103515245 + 12345) % 4294967296 / 65536).tmod (allSyl L W))) j) → Q M') : WV 288 [vR 204, vI s, vI (allSyl L W)] M Q := by
  obtain ⟨z1, z2, z3, z4, z5, z6⟩ := z45
  obtain ⟨tb, tok⟩ := h.tb
  have l240 := tb.1 s
  have dr : 0 ≤ (d * 1103515245 + 12345) % 4294967296 / 65536 ∧ (d * 1103515245 + 12345) % 4294967296 / 65536 < 65536 := by omega
  have mw : 0 ≤ ((d * 1103515245 + 12345) % 4294967296 / 65536).tmod (allSyl L W) ∧ ((d * 1103515245 + 12345) % 4294967296 / 65536).tmod (allSyl L W) < allSyl L W := ⟨Int.tmod_nonneg _ dr.1, Int.tmod_lt_of_pos _ hpos⟩
  refine t_288 o204 ?_
  rw [hd, upM_s]
  refine ⟨⟨hpos, by omega, by omega, by omega⟩, ?_⟩
  generalize ((d * 1103515245 + 12345) % 4294967296 / 65536).tmod (allSyl L W) = w at hQ mw ⊢
  have fr : ∀ {N : Mem}, (∀ k : Int, k ≠ 204 → k ≠ 250 → N k = M k) → (∀ j : Int, j ≠ 85 → j ≠ 86 → N 204 j = M 204 j) → MdlQ N L W S c ∧ TlN N W (tal L W) := fun {N} g f => by
    refine ⟨h.frT ⟨fun k a b => g k b (by omega), fun j _ _ _ a b => f j a b⟩, fun u a b => (hT u a b).up (tb.1 u) ⟨by rw [g 245 (by decide) (by decide)], fun j _ _ => ⟨by rw [g 246 (by decide) (by decide)], by rw [g 247 (by decide) (by decide)], by rw [g 248 (by decide) (by decide)], by rw [g 249 (by decide) (by decide)]⟩⟩⟩
  have lay : ∀ (x : List Int) (j : Nat) (w' : Int), j < (tal L W s).length → (tg (tal L W s) j).1 = x → (row.length : Int) + x.length ≤ 100 → (∀ M' : Mem, (∀ k : Int, k ≠ 204 → k ≠ 250 → M' k = M k) → (∀ j : Int, j ≠ 85 → j ≠ 86 → M' 204 j = M 204 j) → M' 204 85 = d * 1103515245 + 12345 → M' 204 86 = (row ++ x).length → (∀ j : Int, 0 ≤ j → j < (row ++ x).length → M' 250 j = gi (row ++ x) j) → Q M') → ∀ (n t : Nat) (N : Mem), t + n = x.length → (∀ k : Int, k ≠ 204 → k ≠ 250 → N k = M k) → (∀ j : Int, j ≠ 85 → j ≠ 86 → N 204 j = M 204 j) → N 204 85 = d * 1103515245 + 12345 → N 204 86 = row.length + t → (∀ u : Int, 0 ≤ u → u < row.length + t → N 250 u = gi (row ++ x) u) → WR 288 63 [some (vR 204), some (vI s), some (vI (allSyl L W)), some (vI w'), some (vI (240 * s + j)), some (vI t)] [] N (fun _ M' => Q M') := by
    intro x j w' hj hx hr2 hQ n
    induction n with
    | zero =>
      intro t N ht g f h85 h86 hc
      obtain ⟨hN, hTN⟩ := fr g f
      obtain ⟨p79, p80, p81, p82, p83, -, -⟩ := hN.pT
      obtain ⟨v, hv, e1, e2, e3, e4, e5, e6⟩ := (hTN s s0 s1).2 j hj
      rw [hx] at e4 e5
      refine t_288_63 o204 ?_
      rw [p82, e4]
      refine ⟨gC z4 (by omega) (by show _ < ((720 : Nat) : Int); omega), by omega, by omega, ?_⟩
      rw [if_pos (by omega)]
      exact hQ N g f h85 (by rw [h86, List.length_append]; omega) (fun u a b => hc u a (by rw [List.length_append] at b; omega))
    | succ n ih =>
      intro t N ht g f h85 h86 hc
      obtain ⟨hN, hTN⟩ := fr g f
      obtain ⟨p79, p80, p81, p82, p83, p87, -⟩ := hN.pT
      obtain ⟨v, hv, e1, e2, e3, e4, e5, e6⟩ := (hTN s s0 s1).2 j hj
      have okv := (h.2.1.2.2 v hv).2.2
      have h12v := okv.2.1
      rw [hx] at e4 e5
      rw [e4] at e3 e5
      refine t_288_63 o204 ?_
      rw [p82, e4, p80, p81, e1]
      refine ⟨gC z4 (by omega) (by show _ < ((720 : Nat) : Int); omega), by omega, by omega, ?_⟩
      rw [if_neg (by omega), m222 hN.1.1 hN.2.1 hN.2.2.1 (wI hv) (by omega) (by omega), p87, h86]
      have eg : gi (W.getD v []) (N 247 (240 * s + j) + t) = gi x t := by
        rw [← e5, gi_sub e2 (by omega) (by omega) (by omega)]
      rw [eg]
      have e204 : upM N 250 (row.length + (t : Int)) (gi x t) 204 = N 204 := upM_o (by decide)
      rw [e204, h86]
      refine ⟨gC z2 (by omega) (by show _ < ((720 : Nat) : Int); omega), gC z3 (by omega) (by show _ < ((720 : Nat) : Int); omega), gC z6 (by omega) (by show _ < ((100 : Nat) : Int); omega), ih (t + 1) _ (by omega) (fun k a b => by rw [upM_o a, upM_o b]; exact g k a b) (fun u a b => by rw [upM_f b, e204]; exact f u a b) (by rw [upM_f (by decide), e204]; exact h85) (by rw [upM_s]; omega) (fun u a b => ?_)⟩
      rw [upM_o (by decide)]
      by_cases q : u = row.length + (t : Int)
      · rw [q, upM_s, gi_app (by omega), if_neg (by omega)]
        congr 1
        omega
      · rw [upM_f q]
        exact hc u a (by omega)
  have seek : ∀ (n j : Nat) (a : Int), j + n = (tal L W s).length → 0 ≤ a → a < tsum ((tal L W s).drop j) → pick ((tal L W s).drop j) a = pick (tal L W s) w → WR 288 33 [some (vR 204), some (vI s), some (vI (allSyl L W)), some (vI a), some (vI (240 * s + j)), none] [] (upM M 204 85 (d * 1103515245 + 12345)) (fun _ M' => Q M') := by
    intro n
    induction n with
    | zero =>
      intro j a hj a0 a1 hp
      rw [List.drop_eq_nil_of_le (by omega)] at a1
      exact absurd a1 (by show ¬ a < 0; omega)
    | succ n ih =>
      intro j a hj a0 a1 hp
      obtain ⟨hN, hTN⟩ := fr (N := upM M 204 85 (d * 1103515245 + 12345)) (fun k a _ => upM_o a) (fun j a _ => upM_f a)
      obtain ⟨p79, p80, p81, p82, p83, p87, -⟩ := hN.pT
      obtain ⟨v, hv, e1, e2, e3, e4, e5, e6⟩ := (hTN s s0 s1).2 j (by omega)
      have hr := tl_r (tok s) (tb.2.2.1 s) (by rw [tb.2.1]; omega) j (by omega)
      have ed : (tal L W s).drop j = tg (tal L W s) j :: (tal L W s).drop (j + 1) := by
        unfold tg
        rw [List.getD_eq_getElem?_getD, List.getElem?_eq_getElem (by omega)]
        exact (List.getElem_cons_drop (by omega)).symm
      have okj := tok s _ (tg_mem (T := tal L W s) (i := j) (by omega))
      have asm : a < 1000000 := by
        have : ∀ T : Tb, (∀ e ∈ T, 1 ≤ e.2) → ∀ i, tsum (T.drop i) ≤ tsum T := by
          intro T
          induction T with
          | nil => intro _ i; rw [List.drop_nil]; exact Int.le_refl _
          | cons e r ihT =>
            intro hp i
            cases i with
            | zero => exact Int.le_refl _
            | succ i =>
              have := ihT (fun e he => hp e (List.mem_cons_of_mem _ he)) i
              have := hp e List.mem_cons_self
              show tsum (r.drop i) ≤ e.2 + tsum r
              omega
        have := this (tal L W s) (tb.2.2.1 s) j
        rw [tb.2.1] at this
        omega
      rw [tsum_drop (by omega)] at a1
      rw [ed, pick_c] at hp
      refine t_288_33 o204 ?_
      rw [p83, e6]
      refine ⟨gC z5 (by omega) (by show _ < ((720 : Nat) : Int); omega), by omega, by omega, ?_⟩
      by_cases q : a < (tg (tal L W s) j).2
      · rw [if_pos q]
        rw [if_pos q] at hp
        rw [← hp] at hQ
        exact lay _ j a (by omega) rfl (by have := okj.2; omega) hQ _ 0 _ (Nat.zero_add _) (fun k a _ => upM_o a) (fun j a _ => upM_f a) upM_s (by rw [upM_f (by decide), hm]; show _ = _ + (0 : Int); omega) (fun u a b => by
          rw [upM_o (by decide), gi_app a, if_pos (by omega)]
          exact hrow u a (by omega))
      · rw [if_neg q]
        rw [if_neg q] at hp
        rw [show 240 * s + (j : Int) + 1 = 240 * s + ((j + 1 : Nat) : Int) by omega]
        exact ⟨gC z5 (by omega) (by show _ < ((720 : Nat) : Int); omega), ih (j + 1) _ (by omega) (by omega) (by omega) hp⟩
  have := seek (tal L W s).length 0 w (by omega) mw.1 (by rw [List.drop_zero, tb.2.1]; exact mw.2) (by rw [List.drop_zero])
  rw [show 240 * s + ((0 : Nat) : Int) = 240 * s by omega] at this
  exact this
theorem mMade {Q : Int → Mem → Prop} {seed n : Int} (h : MdlQ M L W S c) (hM : MTal M L W) (hn : inR n) (hi : inR i) (hQ : ∀ M' : Mem, FrT M M' → MTal M' L W → Q (aMade L W seed n i) M') : WI 289 [vR 204, vI seed, vI n, vI i] M Q := by
  obtain ⟨z1, z2, z3, z4, z5, z6⟩ := z45
  obtain ⟨tb, tok⟩ := h.tb
  unfold aMade at hQ
  refine t_289 o204 ?_
  rw [wr_id hn, m177 (by omega) (by decide) (by decide)]
  refine ⟨by have := b2i_r (decide (1 ≤ n ∧ n ≤ 4)); omega, ?_⟩
  by_cases q1 : 1 ≤ n ∧ n ≤ 4
  rotate_left
  · rw [if_neg q1] at hQ
    rw [decide_eq_false q1, if_pos (by decide)]
    exact ⟨_, rfl, hQ M FrT.rf hM⟩
  rw [if_pos q1] at hQ
  rw [decide_eq_true q1, if_neg (by decide)]
  refine m285 h hM (fun M1 g1 h84 hT => ?_)
  have h1 := h.frT g1
  rw [m287 h1 hT]
  refine ⟨by omega, ?_⟩
  have fin0 := hQ M1 g1 (Or.inr ⟨h84, hT⟩)
  by_cases q2 : allSyl L W = 0
  · rw [if_pos q2]
    by_cases q3 : i < -1
    · rw [if_pos q3] at fin0; exact ⟨_, rfl, fin0⟩
    · rw [if_neg q3, if_pos (by omega)] at fin0; exact ⟨_, rfl, fin0⟩
  rw [if_neg q2]
  -- all that is made, and its end
  have keep : ∀ {N : Mem}, (∀ k : Int, k ≠ 204 → k ≠ 250 → N k = M1 k) → (∀ j : Int, j ≠ 85 → j ≠ 86 → N 204 j = M1 204 j) → FrT M N ∧ MTal N L W ∧ TlN N W (tal L W) ∧ MdlQ N L W S c := fun {N} g f => by
    have gg : FrT M1 N := ⟨fun k a b => g k b (by omega), fun j _ _ _ a b => f j a b⟩
    have hTN : TlN N W (tal L W) := fun u a b => (hT u a b).up (tb.1 u) ⟨by rw [g 245 (by decide) (by decide)], fun j _ _ => ⟨by rw [g 246 (by decide) (by decide)], by rw [g 247 (by decide) (by decide)], by rw [g 248 (by decide) (by decide)], by rw [g 249 (by decide) (by decide)]⟩⟩
    exact ⟨g1.tr gg, Or.inr ⟨by rw [f 84 (by decide) (by decide)]; exact h84, hTN⟩, hTN, h1.frT gg⟩
  have ends : ∀ (row : List Int) (x5 : Int) (l6 : Option AV) (N : Mem), inR x5 → n ≤ x5 → row.length ≤ 100 → row = mk3 L W (3 * n.toNat) 0 seed → (∀ k : Int, k ≠ 204 → k ≠ 250 → N k = M1 k) → (∀ j : Int, j ≠ 85 → j ≠ 86 → N 204 j = M1 204 j) → N 204 86 = row.length → (∀ j : Int, 0 ≤ j → j < row.length → N 250 j = gi row j) → WR 289 44 [some (vR 204), some (vI seed), some (vI n), some (vI i), some (vI (allSyl L W)), some (vI x5), l6] [] N (fun r M' => ∃ x, r = vI x ∧ Q x M') := by
    intro row x5 l6 N hx hnx hrl er g f h86 hrow
    obtain ⟨k1, k2, k3, k4⟩ := keep g f
    have fin := hQ N k1 k2
    rw [← er] at fin
    refine t_289_44 o204 ⟨hx, hn, ?_⟩
    rw [if_pos hnx]
    refine ⟨hi, ?_⟩
    by_cases q4 : i = -1
    · rw [if_neg (by omega), if_neg (by omega), if_pos q4] at fin
      rw [if_pos q4, h86]
      exact ⟨_, rfl, fin⟩
    · rw [if_neg q4, h86, wr_id hi, wr_id (show inR ((row.length : Int) - 1) by omega), m177 (by omega) (by decide) (by omega)]
      refine ⟨by have := b2i_r (decide (0 ≤ i ∧ i ≤ (row.length : Int) - 1)); omega, ?_⟩
      by_cases q5 : 0 ≤ i ∧ i ≤ (row.length : Int) - 1
      · rw [if_neg (by omega), if_neg (by omega), if_neg q4] at fin
        rw [decide_eq_true q5, if_neg (by decide), k4.pT.2.2.2.2.2.1, hrow i q5.1 (by omega)]
        exact ⟨gC z6 q5.1 (by show _ < ((100 : Nat) : Int); omega), _, rfl, fin⟩
      · rw [decide_eq_false q5, if_pos (by decide)]
        by_cases q6 : i < -1
        · rw [if_pos q6] at fin; exact ⟨_, rfl, fin⟩
        · rw [if_neg q6, if_neg (by omega), if_neg q4, gi_out (by omega)] at fin
          exact ⟨_, rfl, fin⟩
  have lp : ∀ (m t : Nat) (row : List Int) (d : Int) (l6 : Option AV) (N : Mem), t + m = n → (row.length : Int) ≤ 24 * t → row ++ mk3 L W (3 * m) (3 * t) d = mk3 L W (3 * n.toNat) 0 seed → (∀ k : Int, k ≠ 204 → k ≠ 250 → N k = M1 k) → (∀ j : Int, j ≠ 85 → j ≠ 86 → N 204 j = M1 204 j) → N 204 85 = d → N 204 86 = row.length → (∀ j : Int, 0 ≤ j → j < row.length → N 250 j = gi row j) → WR 289 44 [some (vR 204), some (vI seed), some (vI n), some (vI i), some (vI (allSyl L W)), some (vI t), l6] [] N (fun r M' => ∃ x, r = vI x ∧ Q x M') := by
    intro m
    induction m with
    | zero =>
      intro t row d l6 N ht hrl er g f h85 h86 hrow
      refine ends row t l6 N (by omega) (by omega) (by omega) ?_ g f h86 hrow
      rw [← er]
      exact (List.append_nil _).symm
    | succ m ih =>
      intro t row d l6 N ht hrl er g f h85 h86 hrow
      refine t_289_44 o204 ⟨by omega, hn, ?_⟩
      rw [if_neg (by omega)]
      have tm : ∀ u : Nat, u < 3 → (((3 * t + u : Nat) : Int)).tmod 3 = u := fun u hu => by
        rw [Int.tmod_eq_emod_of_nonneg (by omega)]
        omega
      have inner : ∀ (v u : Nat) (row : List Int) (d : Int) (N : Mem), u + v = 3 → (row.length : Int) ≤ 24 * t + (if u = 0 then 0 else if u = 1 then 11 else if u = 2 then 13 else 24) → row ++ mk3 L W (v + 3 * m) (3 * t + u) d = mk3 L W (3 * n.toNat) 0 seed → (∀ k : Int, k ≠ 204 → k ≠ 250 → N k = M1 k) → (∀ j : Int, j ≠ 85 → j ≠ 86 → N 204 j = M1 204 j) → N 204 85 = d → N 204 86 = row.length → (∀ j : Int, 0 ≤ j → j < row.length → N 250 j = gi row j) → WR 289 53 [some (vR 204), some (vI seed), some (vI n), some (vI i), some (vI (allSyl L W)), some (vI t), some (vI u)] [] N (fun r M' => ∃ x, r = vI x ∧ Q x M') := by
        intro v
        induction v with
        | zero =>
          intro u row d N hu hrl er g f h85 h86 hrow
          refine t_289_53 o204 ⟨by omega, ?_⟩
          rw [if_pos (by omega)]
          rw [show u = 3 by omega] at hrl er ⊢
          rw [Nat.zero_add, show 3 * t + 3 = 3 * (t + 1) by omega] at er
          refine ih (t + 1) row d _ N (by omega) ?_ er g f h85 h86 hrow
          have e : (if (3 : Nat) = 0 then (0 : Int) else if (3 : Nat) = 1 then 11 else if (3 : Nat) = 2 then 13 else 24) = 24 := rfl
          rw [e] at hrl
          omega
        | succ v ihv =>
          intro u row d N hu hrl er g f h85 h86 hrow
          obtain ⟨k1, k2, k3, k4⟩ := keep g f
          have hbd : (row.length : Int) + bd3 u ≤ 24 * t + (if u + 1 = 0 then 0 else if u + 1 = 1 then 11 else if u + 1 = 2 then 13 else 24) := by
            have : u = 0 ∨ u = 1 ∨ u = 2 := by omega
            unfold bd3
            rcases this with rfl | rfl | rfl
            · simp at hrl ⊢; omega
            · simp at hrl ⊢; omega
            · simp at hrl ⊢; omega
          have h100 : (if u + 1 = 0 then (0 : Int) else if u + 1 = 1 then 11 else if u + 1 = 2 then 13 else 24) ≤ 24 := by
            split
            · decide
            · split
              · decide
              · split <;> decide
          rw [show v + 1 + 3 * m = v + 3 * m + 1 by omega, mk3_s, tm u (by omega), ← List.append_assoc] at er
          have po := pick_ok (tal L W (u : Int)) (((d * 1103515245 + 12345) % 4294967296 / 65536).tmod (allSyl L W)) (tok u)
          refine t_289_53 o204 ⟨by omega, ?_⟩
          rw [if_neg (by omega)]
          refine m288 k4 k3 (by omega) (by omega) (by omega) h85 h86 hrow (by omega) (fun N' g' f' h85' h86' hrow' => ?_)
          refine ihv (u + 1) _ _ N' (by omega) ?_ er (fun k a b => (g' k a b).trans (g k a b)) (fun j a b => (f' j a b).trans (f j a b)) h85' h86' hrow'
          rw [List.length_append]
          omega
      exact inner 3 0 row d N (by omega) (by rw [if_pos rfl, Int.add_zero]; exact hrl) (by rw [show 3 + 3 * m = 3 * (m + 1) by omega]; exact er) g f h85 h86 hrow
  exact lp n.toNat 0 [] seed _ _ (by omega) (by decide) rfl (fun k a _ => by rw [upM_o a, upM_o a]) (fun j a b => by rw [upM_f b, upM_f a]) (by rw [upM_f (by decide), upM_s]) upM_s (fun j a b => absurd b (by show ¬ j < 0; omega))
end TM
