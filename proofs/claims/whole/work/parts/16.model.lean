/-! THE MODEL READ: what its laws and words tell. -/
def mpT : List (Int × Int) := [(0, 205), (12, 206), (27, 207), (28, 208), (29, 209), (30, 210), (31, 211), (32, 212), (33, 213), (34, 214), (35, 215), (36, 216), (37, 217), (48, 218), (49, 219), (50, 220), (51, 221), (52, 222), (53, 223), (54, 224), (55, 225), (57, 226), (58, 227), (59, 228), (60, 229), (61, 230), (62, 231), (64, 232), (65, 233), (66, 234), (67, 235), (68, 236), (71, 237), (72, 238), (73, 239), (74, 240), (75, 241), (76, 242), (77, 243), (78, 244), (79, 245), (80, 246), (81, 247), (82, 248), (83, 249), (87, 250)]
def PtrM (M : Mem) : Prop := ∀ q ∈ mpT, M 204 q.1 = q.2
theorem PtrM.at {M : Mem} (h : PtrM M) {j v : Int} (hm : (j, v) ∈ mpT) : M 204 j = v := h _ hm
theorem o204 : gO 12 204 := ⟨by decide, by decide +kernel⟩
/-- a row of numbers in an array, from a place on -/
def SegIs (M : Mem) (a o : Int) (l : List Int) : Prop := ∀ j : Int, 0 ≤ j → j < l.length → M a (o + j) = gi l j
/-- an array of so many that can be read from a place on for so long -/
def ArrOk (a o n : Int) : Prop := (shA SH a).1 = 20 ∧ 0 ≤ o ∧ o + n ≤ ((shA SH a).2 : Int)
theorem ArrOk.g {a o n i : Int} (h : ArrOk a o n) (h0 : 0 ≤ i) (h1 : i < n) : gA 20 a (o + i) := ⟨h.1, by have := h.2.1; omega, by have := h.2.2; omega⟩
def WordOk (L : Lw) (l : List Int) : Prop := 1 ≤ l.length ∧ l.length ≤ 12 ∧ ∀ s ∈ l, 0 ≤ s ∧ s < Ln L
def MSnd (M : Mem) (L : Lw) : Prop := M 204 38 = Ln L ∧ (∀ s : Int, 0 ≤ s → s < Ln L → M 219 s = Llt L s ∧ M 220 s = Lop L s ∧ M 221 s = b2i (Lpk L s)) ∧ ∀ c : Int, 0 ≤ c → c < 26 → M 218 c = numOf L (c + 97)
def MTld (M : Mem) (L : Lw) : Prop := M 204 39 = (Ltd L).length ∧ (∀ i : Nat, i < (Ltd L).length → M 223 i = ((Ltd L).getD i []).length ∧ SegIs M 222 (4 * i) ((Ltd L).getD i [])) ∧ M 204 40 = (Lgl L).length ∧ ∀ i : Nat, i < (Lgl L).length → M 224 (2 * i) = ((Lgl L).getD i (0, 0)).1 ∧ M 224 (2 * i + 1) = ((Lgl L).getD i (0, 0)).2
def MNum (M : Mem) (L : Lw) : Prop := M 204 41 = Lz L 0 ∧ M 204 42 = Lz L 1 ∧ M 204 43 = Lz L 2 ∧ M 204 44 = Lz L 9 ∧ M 204 45 = Lz L 10 ∧ M 204 46 = Lz L 7 ∧ M 204 47 = Lz L 8 ∧ M 225 0 = Lz L 3 ∧ M 225 1 = Lz L 4 ∧ M 225 2 = Lz L 5 ∧ M 225 3 = Lz L 6
def MLaw (M : Mem) (L : Lw) : Prop := PtrM M ∧ MSnd M L ∧ MTld M L ∧ MNum M L ∧ Wf L
def MLrn (M : Mem) (L : Lw) (W : List (List Int)) : Prop := M 230 0 = W.length ∧ W.length ≤ 20 ∧ ∀ i : Nat, i < W.length → M 230 (1 + i) = (W.getD i []).length ∧ SegIs M 230 (21 + 12 * i) (W.getD i []) ∧ WordOk L (W.getD i [])
def MSpk (M : Mem) (L : Lw) (S : List (List Int)) : Prop := M 204 56 = S.length ∧ S.length ≤ 8 ∧ ∀ i : Nat, i < S.length → M 227 i = (S.getD i []).length ∧ SegIs M 226 (12 * i) (S.getD i []) ∧ WordOk L (S.getD i [])
theorem opn_on {L : Lw} {s : Int} (h0 : 0 ≤ s) (h1 : s < Ln L) : opn L s = Lop L s := if_pos ⟨h0, h1⟩
theorem pkn_eq {L : Lw} {s : Int} (h0 : 0 ≤ s) (h1 : s < Ln L) : pkn L s = Lpk L s := by
  unfold pkn
  rw [decide_eq_true ⟨h0, h1⟩, Bool.true_and]
theorem gi_mem {l : List Int} {i : Int} (h0 : 0 ≤ i) (h1 : i < l.length) : gi l i ∈ l := by
  obtain ⟨n, rfl⟩ := Int.eq_ofNat_of_zero_le h0
  rw [gi_nat, List.getD_eq_getElem?_getD, List.getElem?_eq_getElem (by omega)]
  exact List.getElem_mem _
theorem adj_drop (P : Int → Int → Bool) {l : List Int} {i : Nat} (h : i + 1 < l.length) : adjB P (l.drop i) = (P (gi l i) (gi l (i + 1 : Nat)) && adjB P (l.drop (i + 1))) := by
  rw [drop_cons (show i < l.length by omega), drop_cons h]
  rfl
section MR
variable {M : Mem} {a o s : Int} {l : List Int} {L : Lw} {W : List (List Int)}
theorem sz_220 : shA SH 220 = (20, 16) ∧ shA SH 221 = (20, 16) := by decide +kernel
theorem m225 {Q : Int → Mem → Prop} (h : MLaw M L) (h0 : 0 ≤ s) (h1 : s < Ln L) : WI 225 [vR 204, vI s] M Q = Q (b2i (pkn L s)) M := by
  have hn := h.2.2.2.2.1.1
  refine FN.wi (WC.fn (t_225 o204 ?_))
  rw [h.1.at (show ((51 : Int), (221 : Int)) ∈ mpT by decide), (h.2.1.2.1 s h0 h1).2.2, pkn_eq h0 h1]
  refine ⟨⟨by rw [sz_220.2], h0, by rw [sz_220.2]; show _ < ((16 : Nat) : Int); omega⟩, by have := b2i_r (Lpk L s); omega, ?_⟩
  cases Lpk L s <;> exact ⟨rfl, rfl⟩
theorem m226 {Q : Int → Mem → Prop} {b : Int} (h : MLaw M L) (h0 : 0 ≤ a) (h1 : a < Ln L) (g0 : 0 ≤ b) (g1 : b < Ln L) : WI 226 [vR 204, vI a, vI b] M Q = Q (b2i (longH L a b)) M := by
  have hn := h.2.2.2.2.1.1
  have hg6 := h.2.2.2.2.2.1.2.2.1
  obtain ⟨-, -, e40, hgl⟩ := h.2.2.1
  have hgr := h.2.2.2.2.2.1.2.2.2
  have e54 := h.1.at (show ((54 : Int), (224 : Int)) ∈ mpT by decide)
  have hs : shA SH 224 = (20, 12) := by decide +kernel
  have key : ∀ (k j : Nat) (P : AV → Mem → Prop), j + k = (Lgl L).length → P (vI (b2i (anyB (fun x => decide ((Lgl L).getD x.toNat (0, 0) = (a, b))) j k))) M → WR 226 27 [some (vR 204), some (vI a), some (vI b), some (vI j)] [] M P := by
    intro k
    induction k with
    | zero =>
      intro j P hj hP
      refine t_226_27 o204 ?_
      rw [e40]
      refine ⟨by omega, by omega, ?_⟩
      rw [if_pos (by omega)]
      exact hP
    | succ k ih =>
      intro j P hj hP
      have hm : (Lgl L).getD j (0, 0) ∈ Lgl L := by
        rw [List.getD_eq_getElem?_getD, List.getElem?_eq_getElem (by omega)]
        exact List.getElem_mem _
      have hgr := hgr _ hm
      obtain ⟨q1, q2⟩ := hgl j (by omega)
      refine t_226_27 o204 ?_
      rw [e40, e54, q1, q2]
      unfold anyB at hP
      rw [Int.toNat_natCast] at hP
      generalize (Lgl L).getD j (0, 0) = g at hgr hP
      obtain ⟨u, v⟩ := g
      dsimp only at hgr ⊢
      refine ⟨by omega, by omega, ?_⟩
      rw [if_neg (by omega)]
      have nx : (u, v) ≠ (a, b) → WR 226 27 [some (vR 204), some (vI a), some (vI b), some (vI ((j : Int) + 1))] [] M P := by
        intro he
        rw [decide_eq_false he, Bool.false_or] at hP
        exact ih (j + 1) P (by omega) hP
      refine ⟨⟨by rw [hs], by omega, by rw [hs]; show _ < ((12 : Nat) : Int); omega⟩, by omega, by omega, ?_⟩
      by_cases e1 : u = a
      · rw [if_pos e1]
        refine ⟨⟨by rw [hs], by omega, by rw [hs]; show _ < ((12 : Nat) : Int); omega⟩, by omega, by omega, ?_⟩
        by_cases e2 : v = b
        · rw [if_pos e2]
          rw [decide_eq_true (by rw [e1, e2])] at hP
          exact hP
        · rw [if_neg e2]
          exact nx (fun q => e2 (Prod.mk.inj q).2)
      · rw [if_neg e1]
        exact nx (fun q => e1 (Prod.mk.inj q).1)
  refine FN.wi (WC.fn (t_226 o204 ?_))
  rw [m225 h h0 h1]
  unfold longH
  refine ⟨by have := b2i_r (pkn L a); omega, ?_⟩
  cases hpa : pkn L a
  · exact ⟨rfl, rfl⟩
  rw [if_neg (by decide), m225 h g0 g1]
  refine ⟨by have := b2i_r (pkn L b); omega, ?_⟩
  cases hpb : pkn L b
  · exact ⟨rfl, rfl⟩
  rw [if_neg (by decide)]
  refine ⟨by omega, by omega, ?_⟩
  by_cases he : a = b
  · rw [if_pos he, decide_eq_true he]
    exact ⟨rfl, rfl⟩
  · rw [if_neg he, decide_eq_false he, Bool.false_or, Bool.true_and, Bool.true_and]
    have h00 := key (Lgl L).length 0 (fun r N => r = vI (b2i (decide ((a, b) ∈ Lgl L))) ∧ N = M) (by omega) ⟨by rw [show ((0 : Nat) : Int) = 0 from rfl, anyB_mem (fun i hi => by rw [Int.toNat_natCast])]; exact congrArg (fun t => vI (b2i t)) (decide_eq_decide.mpr Iff.rfl), rfl⟩
    exact h00
theorem g220 (h : MLaw M L) (h0 : 0 ≤ s) (h1 : s < Ln L) : gA 20 220 s := by
  have hn := h.2.2.2.2.1.1
  exact ⟨by rw [sz_220.1], h0, by rw [sz_220.1]; show _ < ((16 : Nat) : Int); omega⟩
theorem m231 {Q : Int → Mem → Prop} (h : MLaw M L) (ha : ArrOk a o l.length) (hs : SegIs M a o l) (hl : onl L l) (hlen : l.length ≤ 12) (ho : o ≤ 10000) : WI 231 [vR 204, vR a, vI o, vI l.length] M Q = Q (b2i (rising L l)) M := by
  have e50 := h.1.at (show ((50 : Int), (220 : Int)) ∈ mpT by decide)
  have e41 := h.2.2.2.1.1
  have hz := h.2.2.2.2.2.2.1
  have ho0 := ha.2.1
  have key : ∀ (k j : Nat) (P : AV → Mem → Prop), 1 ≤ j → (j + k = l.length ∨ (k = 0 ∧ l.length ≤ j ∧ j ≤ 1)) → P (vI (b2i (adjB (Pu L (Lz L 0)) (l.drop (j - 1))))) M → WR 231 13 [some (vR 204), some (vR a), some (vI o), some (vI l.length), some (vI j)] [] M P := by
    intro k
    induction k with
    | zero =>
      intro j P h1 hj hP
      refine t_231_13 o204 ⟨by omega, by omega, ?_⟩
      rw [if_pos (by omega)]
      rw [adj_short _ (by rw [List.length_drop]; omega)] at hP
      exact hP
    | succ k ih =>
      intro j P h1 hj hP
      obtain ⟨i, rfl⟩ : ∃ i, j = i + 1 := ⟨j - 1, by omega⟩
      have q1 := hl _ (gi_mem (l := l) (i := ((i + 1 : Nat) : Int)) (by omega) (by omega))
      have q2 := hl _ (gi_mem (l := l) (i := (i : Int)) (by omega) (by omega))
      have r1 := (h.2.1.2.1 _ q1.1 q1.2).2.1
      have r2 := (h.2.1.2.1 _ q2.1 q2.2).2.1
      have b1 := h.2.2.2.2.1.2.1 _ q1.1 q1.2
      have b2 := h.2.2.2.2.1.2.1 _ q2.1 q2.2
      rw [Nat.add_sub_cancel, adj_drop _ (show i + 1 < l.length by omega)] at hP
      refine t_231_13 o204 ⟨by omega, by omega, ?_⟩
      rw [if_neg (by omega), e50, hs ((i + 1 : Nat) : Int) (by omega) (by omega), show o + ((i + 1 : Nat) : Int) - 1 = o + (i : Int) by omega, hs (i : Int) (by omega) (by omega), r1, r2, e41]
      have hP2 : Pu L (Lz L 0) (gi l i) (gi l (i + 1 : Nat)) = decide (Lz L 0 ≤ Lop L (gi l (i + 1 : Nat)) - Lop L (gi l i)) := by
        unfold Pu
        rw [opn_on q1.1 q1.2, opn_on q2.1 q2.2]
      rw [hP2] at hP
      refine ⟨ha.g (by omega) (by omega), g220 h q1.1 q1.2, ha.g (by omega) (by omega), g220 h q2.1 q2.2, by omega, by omega, ?_⟩
      by_cases q : Lz L 0 ≤ Lop L (gi l (i + 1 : Nat)) - Lop L (gi l i)
      · rw [if_pos q]
        rw [decide_eq_true q, Bool.true_and] at hP
        exact ih (i + 1 + 1) P (by omega) (by omega) hP
      · rw [if_neg q]
        rw [decide_eq_false q, Bool.false_and] at hP
        exact hP
  refine FN.wi (WC.fn (t_231 o204 ?_))
  rw [e41]
  unfold rising
  refine ⟨by omega, ?_⟩
  by_cases q : Lz L 0 = -1
  · rw [if_pos q, decide_eq_false (fun z => z q)]
    exact ⟨rfl, rfl⟩
  · rw [if_neg q, decide_eq_true q, Bool.true_and]
    exact key (l.length - 1) 1 _ (by omega) (by omega) ⟨by rw [Nat.sub_self, List.drop_zero], rfl⟩
theorem m236 {Q : Int → Mem → Prop} (h : MLaw M L) (ha : ArrOk a o l.length) (hs : SegIs M a o l) (hl : onl L l) (hlen : l.length ≤ 12) (ho : o ≤ 10000) : WI 236 [vR 204, vR a, vI o, vI l.length] M Q = Q (b2i (closes L l)) M := by
  have e50 := h.1.at (show ((50 : Int), (220 : Int)) ∈ mpT by decide)
  have e42 := h.2.2.2.1.2.1
  have e43 := h.2.2.2.1.2.2.1
  have hz := h.2.2.2.2.2.2
  unfold WfZ at hz
  have ho0 := ha.2.1
  have key : ∀ (k j : Nat) (P : AV → Mem → Prop), 1 ≤ j → (j + k = l.length ∨ (k = 0 ∧ l.length ≤ j ∧ j ≤ 1)) → P (vI (b2i (adjB (Pd L (Lz L 2)) (l.drop (j - 1))))) M → WR 236 13 [some (vR 204), some (vR a), some (vI o), some (vI l.length), some (vI j)] [] M P := by
    intro k
    induction k with
    | zero =>
      intro j P h1 hj hP
      refine t_236_13 o204 ⟨by omega, by omega, ?_⟩
      rw [if_pos (by omega)]
      rw [adj_short _ (by rw [List.length_drop]; omega)] at hP
      exact hP
    | succ k ih =>
      intro j P h1 hj hP
      obtain ⟨i, rfl⟩ : ∃ i, j = i + 1 := ⟨j - 1, by omega⟩
      have q1 := hl _ (gi_mem (l := l) (i := ((i + 1 : Nat) : Int)) (by omega) (by omega))
      have q2 := hl _ (gi_mem (l := l) (i := (i : Int)) (by omega) (by omega))
      have r1 := (h.2.1.2.1 _ q1.1 q1.2).2.1
      have r2 := (h.2.1.2.1 _ q2.1 q2.2).2.1
      have b1 := h.2.2.2.2.1.2.1 _ q1.1 q1.2
      have b2 := h.2.2.2.2.1.2.1 _ q2.1 q2.2
      rw [Nat.add_sub_cancel, adj_drop _ (show i + 1 < l.length by omega)] at hP
      refine t_236_13 o204 ⟨by omega, by omega, ?_⟩
      rw [if_neg (by omega), e50, hs ((i + 1 : Nat) : Int) (by omega) (by omega), show o + ((i + 1 : Nat) : Int) - 1 = o + (i : Int) by omega, hs (i : Int) (by omega) (by omega), r1, r2, e43]
      have hP2 : Pd L (Lz L 2) (gi l i) (gi l (i + 1 : Nat)) = decide (Lz L 2 ≤ Lop L (gi l i) - Lop L (gi l (i + 1 : Nat))) := by
        unfold Pd
        rw [opn_on q1.1 q1.2, opn_on q2.1 q2.2]
      rw [hP2] at hP
      refine ⟨ha.g (by omega) (by omega), g220 h q2.1 q2.2, ha.g (by omega) (by omega), g220 h q1.1 q1.2, by omega, by omega, ?_⟩
      by_cases q : Lz L 2 ≤ Lop L (gi l i) - Lop L (gi l (i + 1 : Nat))
      · rw [if_pos q]
        rw [decide_eq_true q, Bool.true_and] at hP
        exact ih (i + 1 + 1) P (by omega) (by omega) hP
      · rw [if_neg q]
        rw [decide_eq_false q, Bool.false_and] at hP
        exact hP
  refine FN.wi (WC.fn (t_236 o204 ?_))
  rw [e42]
  unfold closes
  refine ⟨by omega, by omega, ?_⟩
  by_cases q : (l.length : Int) ≤ Lz L 1
  · rw [if_pos q, decide_eq_true q, Bool.true_and]
    exact key (l.length - 1) 1 _ (by omega) (by omega) ⟨by rw [Nat.sub_self, List.drop_zero], rfl⟩
  · rw [if_neg q, decide_eq_false q]
    exact ⟨rfl, rfl⟩
end MR
