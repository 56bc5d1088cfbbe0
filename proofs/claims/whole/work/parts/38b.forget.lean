/-! forget by the model -/
section MF
variable {M M' : Mem} {ft fp : Int} {T : List Int} {L : Lw} {W S : List (List Int)} {c : Int → Int} {A : List Sn}
theorem mForget {Q : Int → Mem → Prop} {w : Int} (h : MdlS M T ft fp L W S c A) (hn : inR w) (hQ : ∀ M' : Mem, (if 100 ≤ w ∧ w - 100 < W.length then MdlS M' T ft fp L (delL (w - 100).toNat W) S c (pushA A (W, c)) → Q ((W.length : Int) - 1) M' else MdlS M' T ft fp L W S c A → Q (-1) M')) : WI 216 [vR 204, vI w] M Q := by
  have p1 := h.p61
  have hW := h.1.2.1
  have w20 := hW.2.1
  refine t_216 o204 ?_
  rw [p1, hW.1]
  refine ⟨gC z230 (by decide) (by decide), ?_⟩
  have hwr : (0 ≤ wr32 (w - 100) ∧ wr32 (w - 100) ≤ (W.length : Int) - 1) ↔ (100 ≤ w ∧ w - 100 < W.length) := by
    by_cases q : -2147483648 ≤ w - 100
    · rw [wr_id (by omega)]
      omega
    · rw [wr_lo (by omega) (by omega)]
      omega
  have hwi := wr_in (w - 100)
  rw [wr_id (show inR ((W.length : Int) - 1) by omega), m177 (by omega) (by decide) (by omega)]
  refine ⟨by have := b2i_r (decide (0 ≤ wr32 (w - 100) ∧ wr32 (w - 100) ≤ (W.length : Int) - 1)); omega, ?_⟩
  by_cases q1 : 100 ≤ w ∧ w - 100 < W.length
  rotate_left
  · rw [decide_eq_false (fun z => q1 (hwr.mp z)), if_pos (by decide)]
    have := hQ M
    rw [if_neg q1] at this
    exact ⟨_, rfl, this h⟩
  rw [decide_eq_true (hwr.mpr q1), if_neg (by decide)]
  refine m213 h (fun M1 h84 h1 => ?_)
  have p1' := h1.p61
  have hW1 := h1.1.2.1
  obtain ⟨d, hd⟩ : ∃ d : Nat, w - 100 = d := ⟨(w - 100).toNat, by omega⟩
  have hdl : d < W.length := by omega
  rw [p1', hW1.1]
  refine ⟨gC z230 (by decide) (by decide), gC z230 (by decide) (by decide), ?_⟩
  have hq : ∀ M' : Mem, MdlS M' T ft fp L (delL d W) S c (pushA A (W, c)) → Q ((W.length : Int) - 1) M' := fun M' => by
    have := hQ M'
    rw [if_pos q1, hd, Int.toNat_natCast] at this
    exact this
  rw [hd]
  clear hQ hwr hwi
  let V : Int → Int → Int → Int := fun a b j => if j = 0 then (W.length : Int) - 1 else if 1 + (d : Int) ≤ j ∧ j < a then M1 230 (j + 1) else if 21 + 12 * (d : Int) ≤ j ∧ j < b then M1 230 (j + 12) else M1 230 j
  have hV : ∀ a b j, V a b j = if j = 0 then (W.length : Int) - 1 else if 1 + (d : Int) ≤ j ∧ j < a then M1 230 (j + 1) else if 21 + 12 * (d : Int) ≤ j ∧ j < b then M1 230 (j + 12) else M1 230 j := fun _ _ _ => rfl
  clear_value V
  have key : ∀ (n : Nat) (x : Int) (l4 : Option AV), x + n = (W.length : Int) - 1 → (d : Int) ≤ x → ∀ N : Mem, (∀ k : Int, k ≠ 230 → N k = M1 k) → (∀ j : Int, N 230 j = V (1 + x) (21 + 12 * x) j) → WR 216 41 [some (vR 204), some (vI w), some (vI d), some (vI x), l4] [] N (fun r M' => ∃ i, r = vI i ∧ Q i M') := by
    intro n
    induction n with
    | zero =>
      intro x l4 hx x0 N e e1
      refine t_216_41 o204 ?_
      have e0 : N 230 0 = (W.length : Int) - 1 := by rw [e1, hV, if_pos rfl]
      rw [e 204 (by decide), p1', e0]
      refine ⟨gC z230 (by decide) (by decide), by omega, by omega, ?_⟩
      rw [if_pos (by omega)]
      refine ⟨gC z230 (by decide) (by decide), _, rfl, hq N (h1.lr (fun k a b d => e k b) (fun j a b => by rw [e 204 (by decide)]) ⟨?_, ?_, fun i hi => ?_⟩ (fun i a b => ?_) (Or.inl (by rw [e 204 (by decide)]; exact h84)) (h1.2.2.2.fr (by rw [e 204 (by decide)]) (e 231 (by decide))))⟩
      · rw [e0, delL_len hdl]
        omega
      · rw [delL_len hdl]
        omega
      · rw [delL_len hdl] at hi
        rw [delL_at (by omega)]
        by_cases q : i < d
        · obtain ⟨c1, c2, c3⟩ := hW1.2.2 i (by omega)
          have cl := c3.2.1
          rw [if_pos q]
          refine ⟨?_, fun j x y => ?_, c3⟩
          · rw [e1, hV, if_neg (by omega), if_neg (by omega), if_neg (by omega)]
            exact c1
          · rw [e1, hV, if_neg (by omega), if_neg (by omega), if_neg (by omega)]
            exact c2 j x y
        · obtain ⟨c1, c2, c3⟩ := hW1.2.2 (i + 1) (by omega)
          have cl := c3.2.1
          rw [if_neg q]
          refine ⟨?_, fun j x y => ?_, c3⟩
          · rw [e1, hV, if_neg (by omega), if_pos (by omega), ← c1]
            congr 1
          · rw [e1, hV, if_neg (by omega), if_neg (by omega), if_pos (by omega), ← c2 j x y]
            congr 1
            omega
      · rw [e1, hV, if_neg (by omega), if_neg (by omega), if_neg (by omega)]
        exact h1.1.2.2.2 i a b
    | succ n ih =>
      intro x l4 hx x0 N e e1
      refine t_216_41 o204 ?_
      have e0 : N 230 0 = (W.length : Int) - 1 := by rw [e1, hV, if_pos rfl]
      rw [e 204 (by decide), p1', e0]
      refine ⟨gC z230 (by decide) (by decide), by omega, by omega, ?_⟩
      rw [if_neg (by omega)]
      refine ⟨gC z230 (by omega) (by show _ < ((267 : Nat) : Int); omega), gC z230 (by omega) (by show _ < ((267 : Nat) : Int); omega), ?_⟩
      have inner : ∀ (m : Nat) (y : Int), y + m = 12 → 0 ≤ y → ∀ N : Mem, (∀ k : Int, k ≠ 230 → N k = M1 k) → (∀ j : Int, N 230 j = V (2 + x) (21 + 12 * x + y) j) → WR 216 70 [some (vR 204), some (vI w), some (vI d), some (vI x), some (vI y)] [] N (fun r M' => ∃ i, r = vI i ∧ Q i M') := by
        intro m
        induction m with
        | zero =>
          intro y hy y0 N e e1
          refine t_216_70 o204 ⟨by omega, ?_⟩
          rw [if_pos (by omega)]
          refine ih (x + 1) _ (by omega) (by omega) N e (fun j => ?_)
          rw [e1, show 1 + (x + 1) = 2 + x by omega, show 21 + 12 * (x + 1) = 21 + 12 * x + y by omega]
        | succ m ihm =>
          intro y hy y0 N e e1
          refine t_216_70 o204 ⟨by omega, ?_⟩
          rw [if_neg (by omega), e 204 (by decide), p1']
          refine ⟨gC z230 (by omega) (by show _ < ((267 : Nat) : Int); omega), gC z230 (by omega) (by show _ < ((267 : Nat) : Int); omega), ihm (y + 1) (by omega) (by omega) _ (fun k a => by rw [upM_o a, e k a]) (fun j => ?_)⟩
          by_cases q : j = 21 + 12 * x + y
          · rw [q, upM_s, e1, hV, hV, if_neg (by omega), if_neg (by omega), if_neg (by omega), if_neg (by omega), if_neg (by omega), if_pos (by omega)]
            congr 1
            omega
          · rw [upM_f q, e1, hV, hV]
            by_cases q0 : j = 0
            · rw [if_pos q0, if_pos q0]
            rw [if_neg q0, if_neg q0]
            by_cases q2 : 1 + (d : Int) ≤ j ∧ j < 2 + x
            · rw [if_pos q2, if_pos q2]
            rw [if_neg q2, if_neg q2]
            by_cases q3 : 21 + 12 * (d : Int) ≤ j ∧ j < 21 + 12 * x + y
            · rw [if_pos q3, if_pos (show 21 + 12 * (d : Int) ≤ j ∧ j < 21 + 12 * x + (y + 1) by omega)]
            · rw [if_neg q3, if_neg (show ¬ (21 + 12 * (d : Int) ≤ j ∧ j < 21 + 12 * x + (y + 1)) by omega)]
      refine inner 12 0 (by decide) (by decide) _ (fun k a => by rw [upM_o a, e k a]) (fun j => ?_)
      by_cases q : j = 1 + x
      · rw [q, upM_s, e1, hV, hV, if_neg (by omega), if_neg (by omega), if_neg (by omega), if_neg (by omega), if_pos (by omega)]
        congr 1
        omega
      · rw [upM_f q, e1, hV, hV]
        by_cases q0 : j = 0
        · rw [if_pos q0, if_pos q0]
        rw [if_neg q0, if_neg q0, Int.add_zero]
        by_cases q2 : 1 + (d : Int) ≤ j ∧ j < 1 + x
        · rw [if_pos q2, if_pos (show 1 + (d : Int) ≤ j ∧ j < 2 + x by omega)]
        · rw [if_neg q2, if_neg (show ¬ (1 + (d : Int) ≤ j ∧ j < 2 + x) by omega)]
  refine key (W.length - 1 - d) d none (by omega) (Int.le_refl _) _ (fun k a => upM_o a) (fun j => ?_)
  rw [hV]
  by_cases q : j = 0
  · rw [if_pos q, q, upM_s]
  · rw [if_neg q, upM_f q, if_neg (by omega), if_neg (by omega)]
end MF
