/-! the model's tables made empty; it begins to read; it takes what it has read -/
section MPL
variable {M M' : Mem} {fp ft : Int} {T : List Int} {t : Tk} {g : Gs} {L : Lw}
theorem m193 {Q : Mem → Prop} (hp : PtrM M) (hQ : ∀ M' : Mem, (∀ k : Int, k ≠ 204 → ¬ (207 ≤ k ∧ k ≤ 217) → M' k = M k) → (∀ j : Int, ¬ (14 ≤ j ∧ j ≤ 26) → M' 204 j = M 204 j) → Stg M' G0 → Q M') : WV 193 [vR 204] M Q := by
  refine t_193 o204 ?_
  have u : ∀ j : Int, ¬ (14 ≤ j ∧ j ≤ 26) → upM (upM (upM (upM (upM (upM (upM (upM (upM (upM (upM (upM (upM M 204 14 0) 204 15 0) 204 16 0) 204 17 0) 204 18 (-1)) 204 19 4) 204 20 0) 204 21 (-1)) 204 22 1) 204 23 2) 204 24 0) 204 25 0) 204 26 0 204 j = M 204 j := fun j a => by
    rw [upM_f (by omega), upM_f (by omega), upM_f (by omega), upM_f (by omega), upM_f (by omega), upM_f (by omega), upM_f (by omega), upM_f (by omega), upM_f (by omega), upM_f (by omega), upM_f (by omega), upM_f (by omega), upM_f (by omega)]
  have o : ∀ k : Int, k ≠ 204 → upM (upM (upM (upM (upM (upM (upM (upM (upM (upM (upM (upM (upM M 204 14 0) 204 15 0) 204 16 0) 204 17 0) 204 18 (-1)) 204 19 4) 204 20 0) 204 21 (-1)) 204 22 1) 204 23 2) 204 24 0) 204 25 0) 204 26 0 k = M k := fun k a => by
    rw [upM_o a, upM_o a, upM_o a, upM_o a, upM_o a, upM_o a, upM_o a, upM_o a, upM_o a, upM_o a, upM_o a, upM_o a, upM_o a]
  have w14 : upM (upM (upM (upM (upM (upM (upM (upM (upM (upM (upM (upM (upM M 204 14 0) 204 15 0) 204 16 0) 204 17 0) 204 18 (-1)) 204 19 4) 204 20 0) 204 21 (-1)) 204 22 1) 204 23 2) 204 24 0) 204 25 0) 204 26 0 204 14 = 0 := rfl
  have w15 : upM (upM (upM (upM (upM (upM (upM (upM (upM (upM (upM (upM (upM M 204 14 0) 204 15 0) 204 16 0) 204 17 0) 204 18 (-1)) 204 19 4) 204 20 0) 204 21 (-1)) 204 22 1) 204 23 2) 204 24 0) 204 25 0) 204 26 0 204 15 = 0 := rfl
  have w16 : upM (upM (upM (upM (upM (upM (upM (upM (upM (upM (upM (upM (upM M 204 14 0) 204 15 0) 204 16 0) 204 17 0) 204 18 (-1)) 204 19 4) 204 20 0) 204 21 (-1)) 204 22 1) 204 23 2) 204 24 0) 204 25 0) 204 26 0 204 16 = 0 := rfl
  have w17 : upM (upM (upM (upM (upM (upM (upM (upM (upM (upM (upM (upM (upM M 204 14 0) 204 15 0) 204 16 0) 204 17 0) 204 18 (-1)) 204 19 4) 204 20 0) 204 21 (-1)) 204 22 1) 204 23 2) 204 24 0) 204 25 0) 204 26 0 204 17 = 0 := rfl
  have w18 : upM (upM (upM (upM (upM (upM (upM (upM (upM (upM (upM (upM (upM M 204 14 0) 204 15 0) 204 16 0) 204 17 0) 204 18 (-1)) 204 19 4) 204 20 0) 204 21 (-1)) 204 22 1) 204 23 2) 204 24 0) 204 25 0) 204 26 0 204 18 = -1 := rfl
  have w19 : upM (upM (upM (upM (upM (upM (upM (upM (upM (upM (upM (upM (upM M 204 14 0) 204 15 0) 204 16 0) 204 17 0) 204 18 (-1)) 204 19 4) 204 20 0) 204 21 (-1)) 204 22 1) 204 23 2) 204 24 0) 204 25 0) 204 26 0 204 19 = 4 := rfl
  have w20 : upM (upM (upM (upM (upM (upM (upM (upM (upM (upM (upM (upM (upM M 204 14 0) 204 15 0) 204 16 0) 204 17 0) 204 18 (-1)) 204 19 4) 204 20 0) 204 21 (-1)) 204 22 1) 204 23 2) 204 24 0) 204 25 0) 204 26 0 204 20 = 0 := rfl
  have w21 : upM (upM (upM (upM (upM (upM (upM (upM (upM (upM (upM (upM (upM M 204 14 0) 204 15 0) 204 16 0) 204 17 0) 204 18 (-1)) 204 19 4) 204 20 0) 204 21 (-1)) 204 22 1) 204 23 2) 204 24 0) 204 25 0) 204 26 0 204 21 = -1 := rfl
  have w22 : upM (upM (upM (upM (upM (upM (upM (upM (upM (upM (upM (upM (upM M 204 14 0) 204 15 0) 204 16 0) 204 17 0) 204 18 (-1)) 204 19 4) 204 20 0) 204 21 (-1)) 204 22 1) 204 23 2) 204 24 0) 204 25 0) 204 26 0 204 22 = 1 := rfl
  have w23 : upM (upM (upM (upM (upM (upM (upM (upM (upM (upM (upM (upM (upM M 204 14 0) 204 15 0) 204 16 0) 204 17 0) 204 18 (-1)) 204 19 4) 204 20 0) 204 21 (-1)) 204 22 1) 204 23 2) 204 24 0) 204 25 0) 204 26 0 204 23 = 2 := rfl
  have w24 : upM (upM (upM (upM (upM (upM (upM (upM (upM (upM (upM (upM (upM M 204 14 0) 204 15 0) 204 16 0) 204 17 0) 204 18 (-1)) 204 19 4) 204 20 0) 204 21 (-1)) 204 22 1) 204 23 2) 204 24 0) 204 25 0) 204 26 0 204 24 = 0 := rfl
  have w25 : upM (upM (upM (upM (upM (upM (upM (upM (upM (upM (upM (upM (upM M 204 14 0) 204 15 0) 204 16 0) 204 17 0) 204 18 (-1)) 204 19 4) 204 20 0) 204 21 (-1)) 204 22 1) 204 23 2) 204 24 0) 204 25 0) 204 26 0 204 25 = 0 := rfl
  have w26 : upM (upM (upM (upM (upM (upM (upM (upM (upM (upM (upM (upM (upM M 204 14 0) 204 15 0) 204 16 0) 204 17 0) 204 18 (-1)) 204 19 4) 204 20 0) 204 21 (-1)) 204 22 1) 204 23 2) 204 24 0) 204 25 0) 204 26 0 204 26 = 0 := rfl
  generalize upM (upM (upM (upM (upM (upM (upM (upM (upM (upM (upM (upM (upM M 204 14 0) 204 15 0) 204 16 0) 204 17 0) 204 18 (-1)) 204 19 4) 204 20 0) 204 21 (-1)) 204 22 1) 204 23 2) 204 24 0) 204 25 0) 204 26 0 = N0 at *
  have hp0 : ∀ {j v : Int}, (j, v) ∈ mpT → N0 204 j = v := fun {j v} hm => by
    have : ∀ q ∈ mpT, ¬ (14 ≤ q.1 ∧ q.1 ≤ 26) := by decide
    rw [u j (this _ hm)]
    exact hp.at hm
  have p27 : N0 204 27 = 207 := hp0 (by decide)
  have p36 : N0 204 36 = 216 := hp0 (by decide)
  have p37 : N0 204 37 = 217 := hp0 (by decide)
  have l6 : ∀ (n : Nat) (x : Int), x + n = 6 → 0 ≤ x → ∀ N : Mem, (∀ k : Int, k ≠ 207 → k ≠ 216 → N k = N0 k) → (∀ i : Int, 0 ≤ i → i < 26 → N 207 i = -1) → (∀ i : Int, 0 ≤ i → i < x → N 216 i = 0) → WR 193 88 [some (vR 204), some (vI x)] [] N (fun _ M' => Q M') := by
    intro n
    induction n with
    | zero =>
      intro x hx x0 N e h7 h6
      have e4 : N 204 = N0 204 := e 204 (by decide) (by decide)
      refine t_193_88 o204 ⟨by omega, ?_⟩
      have o1 : ∀ v k : Int, upM N 217 0 v 204 k = N 204 k := fun v k => by rw [upM_o (by decide)]
      have o2 : ∀ v w k : Int, upM (upM N 217 0 v) 217 1 w 204 k = N 204 k := fun v w k => by rw [upM_o (by decide), o1]
      have o3 : ∀ v w z k : Int, upM (upM (upM N 217 0 v) 217 1 w) 217 2 z 204 k = N 204 k := fun v w z k => by rw [upM_o (by decide), o2]
      rw [if_pos (by omega), e4, p37, o1, e4, p37, o2, e4, p37, o3, e4, p37]
      refine ⟨gC z217 (by decide) (by decide), gC z217 (by decide) (by decide), gC z217 (by decide) (by decide), gC z217 (by decide) (by decide), ?_⟩
      have y0 : upM (upM (upM (upM N 217 0 1) 217 1 2) 217 2 1) 217 3 2 217 0 = 1 := rfl
      have y1 : upM (upM (upM (upM N 217 0 1) 217 1 2) 217 2 1) 217 3 2 217 1 = 2 := rfl
      have y2 : upM (upM (upM (upM N 217 0 1) 217 1 2) 217 2 1) 217 3 2 217 2 = 1 := rfl
      have y3 : upM (upM (upM (upM N 217 0 1) 217 1 2) 217 2 1) 217 3 2 217 3 = 2 := rfl
      have yo : ∀ k : Int, k ≠ 217 → upM (upM (upM (upM N 217 0 1) 217 1 2) 217 2 1) 217 3 2 k = N k := fun k a => by rw [upM_o a, upM_o a, upM_o a, upM_o a]
      generalize upM (upM (upM (upM N 217 0 1) 217 1 2) 217 2 1) 217 3 2 = N5 at *
      have e5 : ∀ j : Int, N5 204 j = N0 204 j := fun j => by rw [yo 204 (by decide), e4]
      refine hQ N5 (fun k a b => by rw [yo k (by omega), e k (by omega) (by omega), o k a]) (fun j a => by rw [e5, u j a]) ⟨⟨by rw [e5]; exact w14, fun s a b => absurd b (by show ¬ s < ((0 : Nat) : Int); omega), fun c a b => ?_⟩, ⟨by rw [e5]; exact w15, fun i hi => absurd hi (Nat.not_lt_zero _), by rw [e5]; exact w16, fun i hi => absurd hi (Nat.not_lt_zero _)⟩, ⟨by rw [e5]; exact w18, by rw [e5]; exact w19, by rw [e5]; exact w20, by rw [e5]; exact w21, by rw [e5]; exact w22, by rw [e5]; exact w23, by rw [e5]; exact w24, y0, y1, y2, y3⟩, ⟨by rw [e5]; exact w17, fun i hi => absurd hi (Nat.not_lt_zero _)⟩, fun i a b => ?_, by rw [e5]; exact w25, by rw [e5]; exact w26, gok_0⟩
      · rw [yo 207 (by decide), h7 c a b]
        rfl
      · rw [yo 216 (by decide), h6 i a (by omega)]
        rfl
    | succ n ih =>
      intro x hx x0 N e h7 h6
      have e4 : N 204 = N0 204 := e 204 (by decide) (by decide)
      refine t_193_88 o204 ⟨by omega, ?_⟩
      rw [if_neg (by omega), e4, p36]
      refine ⟨gC z208.2.2.2 x0 (by show x < ((6 : Nat) : Int); omega), ih (x + 1) (by omega) (by omega) _ (fun k a b => by rw [upM_o b]; exact e k a b) (fun i a b => by rw [upM_o (by decide)]; exact h7 i a b) (fun i a b => ?_)⟩
      by_cases q : i = x
      · rw [q, upM_s]
      · rw [upM_f q]
        exact h6 i a (by omega)
  have l26 : ∀ (n : Nat) (x : Int), x + n = 26 → 0 ≤ x → ∀ N : Mem, (∀ k : Int, k ≠ 207 → N k = N0 k) → (∀ i : Int, 0 ≤ i → i < x → N 207 i = -1) → WR 193 67 [some (vR 204), some (vI x)] [] N (fun _ M' => Q M') := by
    intro n
    induction n with
    | zero =>
      intro x hx x0 N e h7
      refine t_193_67 o204 ⟨by omega, ?_⟩
      rw [if_pos (by omega)]
      exact l6 6 0 (by decide) (by decide) N (fun k a _ => e k a) (fun i a b => h7 i a (by omega)) (fun i a b => absurd a (by omega))
    | succ n ih =>
      intro x hx x0 N e h7
      have e4 : N 204 = N0 204 := e 204 (by decide)
      refine t_193_67 o204 ⟨by omega, ?_⟩
      rw [if_neg (by omega), e4, p27]
      refine ⟨g207 x0 (by omega), ih (x + 1) (by omega) (by omega) _ (fun k a => by rw [upM_o a]; exact e k a) (fun i a b => ?_)⟩
      by_cases q : i = x
      · rw [q, upM_s]
      · rw [upM_f q]
        exact h7 i a (by omega)
  exact l26 26 0 (by decide) (by decide) N0 (fun _ _ => rfl) (fun i a b => absurd a (by omega))
theorem m208 {Q : Mem → Prop} (hT : TapM M T ft fp) (h0 : M 204 0 = 205) (h12 : M 204 12 = 206) (hQ : ∀ M' : Mem, (∀ k : Int, k ≠ 204 → k ≠ 206 → M' k = M k) → (∀ j : Int, (j < 1 ∨ 9 < j) → j ≠ 13 → M' 204 j = M 204 j) → M' 204 1 = 0 → TmR M' T (nxt T 0) 0 (-1) → Q M') : WV 208 [vR 204] M Q := by
  obtain ⟨t1, t2, t3, t4, t5, t6⟩ := hT
  refine t_208 o204 ?_
  rw [t1]
  have o : ∀ k : Int, k ≠ 204 → upM (upM (upM (upM (upM M 204 2 T.length) 204 1 0) 204 3 0) 204 8 0) 204 9 (-1) k = M k := fun k a => by rw [upM_o a, upM_o a, upM_o a, upM_o a, upM_o a]
  have u : ∀ j : Int, j ≠ 2 → j ≠ 1 → j ≠ 3 → j ≠ 8 → j ≠ 9 → upM (upM (upM (upM (upM M 204 2 T.length) 204 1 0) 204 3 0) 204 8 0) 204 9 (-1) 204 j = M 204 j := fun j a b c d e => by rw [upM_f e, upM_f d, upM_f c, upM_f b, upM_f a]
  have w2 : upM (upM (upM (upM (upM M 204 2 T.length) 204 1 0) 204 3 0) 204 8 0) 204 9 (-1) 204 2 = T.length := rfl
  have w1 : upM (upM (upM (upM (upM M 204 2 T.length) 204 1 0) 204 3 0) 204 8 0) 204 9 (-1) 204 1 = 0 := rfl
  have w3 : upM (upM (upM (upM (upM M 204 2 T.length) 204 1 0) 204 3 0) 204 8 0) 204 9 (-1) 204 3 = (0 : Nat) := rfl
  have w8 : upM (upM (upM (upM (upM M 204 2 T.length) 204 1 0) 204 3 0) 204 8 0) 204 9 (-1) 204 8 = 0 := rfl
  have w9 : upM (upM (upM (upM (upM M 204 2 T.length) 204 1 0) 204 3 0) 204 8 0) 204 9 (-1) 204 9 = -1 := rfl
  generalize upM (upM (upM (upM (upM M 204 2 T.length) 204 1 0) 204 3 0) 204 8 0) 204 9 (-1) = N at *
  have hB : TmB N T := ⟨⟨by rw [u 0 (by decide) (by decide) (by decide) (by decide) (by decide)]; exact h0, by rw [u 12 (by decide) (by decide) (by decide) (by decide) (by decide)]; exact h12⟩, w2, t2, t3, fun j hj => by rw [o 205 (by decide)]; exact t4 j hj⟩
  refine m187 hB w3 (Nat.zero_le _) (fun M' f k => hQ M' (fun k a b => by rw [f.1 k a b, o k a]) (fun j a b => by rw [f.2 j (by omega) b, u j (by omega) (by omega) (by omega) (by omega) (by omega)]) (by rw [f.2 1 (by decide) (by decide)]; exact w1) ⟨hB.fr f, k, (nxt_ok (Nat.zero_le _)).1, by rw [f.2 8 (by decide) (by decide)]; exact w8, by rw [f.2 9 (by decide) (by decide)]; exact w9⟩)
/-- what a law that has been read leaves -/
theorem m210 {Q : Mem → Prop} (hp : PtrM M) (hs : Stg M g) (hQ : ∀ M' : Mem, (∀ k : Int, k ≠ 204 → ¬ (218 ≤ k ∧ k ≤ 225) → k ≠ 230 → M' k = M k) → (∀ j : Int, ¬ (38 ≤ j ∧ j ≤ 47) → j ≠ 56 → j ≠ 63 → j ≠ 84 → M' 204 j = M 204 j) → M' 204 56 = 0 → M' 204 63 = 0 → M' 204 84 = 0 → MSnd M' g.1 → MTld M' g.1 → MNum M' g.1 → MLrn M' g.1 g.2.1 → MCost M' g.2.2.1 → Q M') : WV 210 [vR 204] M Q := by
  obtain ⟨⟨a1, a2, a3⟩, ⟨b1, b2, b3, b4⟩, ⟨c0, c1, c2, c9, c10, c7, c8, c3, c4, c5, c6⟩, ⟨d1, d2⟩, hc, -, -, hg⟩ := hs
  refine t_210 o204 ?_
  have o : ∀ k : Int, k ≠ 204 → upM (upM (upM (upM (upM (upM (upM (upM (upM (upM M 204 38 (M 204 14)) 204 39 (M 204 15)) 204 40 (M 204 16)) 204 41 (M 204 18)) 204 42 (M 204 19)) 204 43 (M 204 20)) 204 44 (M 204 21)) 204 45 (M 204 22)) 204 46 (M 204 23)) 204 47 (M 204 24) k = M k := fun k a => by
    rw [upM_o a, upM_o a, upM_o a, upM_o a, upM_o a, upM_o a, upM_o a, upM_o a, upM_o a, upM_o a]
  have u : ∀ j : Int, ¬ (38 ≤ j ∧ j ≤ 47) → upM (upM (upM (upM (upM (upM (upM (upM (upM (upM M 204 38 (M 204 14)) 204 39 (M 204 15)) 204 40 (M 204 16)) 204 41 (M 204 18)) 204 42 (M 204 19)) 204 43 (M 204 20)) 204 44 (M 204 21)) 204 45 (M 204 22)) 204 46 (M 204 23)) 204 47 (M 204 24) 204 j = M 204 j := fun j a => by
    rw [upM_f (by omega), upM_f (by omega), upM_f (by omega), upM_f (by omega), upM_f (by omega), upM_f (by omega), upM_f (by omega), upM_f (by omega), upM_f (by omega), upM_f (by omega)]
  suffices H : ∀ N : Mem, (∀ k : Int, k ≠ 204 → N k = M k) → (∀ j : Int, ¬ (38 ≤ j ∧ j ≤ 47) → N 204 j = M 204 j) → N 204 38 = M 204 14 → N 204 39 = M 204 15 → N 204 40 = M 204 16 → N 204 41 = M 204 18 → N 204 42 = M 204 19 → N 204 43 = M 204 20 → N 204 44 = M 204 21 → N 204 45 = M 204 22 → N 204 46 = M 204 23 → N 204 47 = M 204 24 → WR 210 82 [some (vR 204), some (vI 0)] [] N (fun _ M' => Q M') from H _ o u rfl rfl rfl rfl rfl rfl rfl rfl rfl rfl
  clear o u
  intro N o u v38 v39 v40 v41 v42 v43 v44 v45 v46 v47
  have hpN : ∀ N' : Mem, N' 204 = N 204 → PtrM N' := fun N' e x hx => by
    have : ∀ q ∈ mpT, ¬ (38 ≤ q.1 ∧ q.1 ≤ 47) := by decide
    rw [e, u x.1 (this x hx)]
    exact hp x hx
  refine m210a (hpN N rfl) (fun M1 e1 x1 => ?_)
  have E1 : M1 204 = N 204 := e1 204 (by decide)
  refine m210b (hpN M1 E1) (fun M2 e2 x2 x3 x4 => ?_)
  have E2 : M2 204 = N 204 := (e2 204 (by decide) (by decide) (by decide)).trans E1
  refine m210c (hpN M2 E2) (fun M3 e3 x5 => ?_)
  have E3 : M3 204 = N 204 := (e3 204 (by decide)).trans E2
  refine m210d (hpN M3 E3) (fun M4 e4 x6 x7 => ?_)
  have E4 : M4 204 = N 204 := (e4 204 (by decide) (by decide)).trans E3
  refine m210e (hpN M4 E4) (fun M5 e5 x8 => ?_)
  have E5 : M5 204 = N 204 := (e5 204 (by decide)).trans E4
  have p61 : M5 204 61 = 230 := (hpN M5 E5).at (by decide)
  rw [p61]
  refine ⟨gC zTl.2.2.2.2.2.2.2.2.2.2.2.2 (by decide) (by decide), ?_⟩
  have e6 : ∀ k : Int, k ≠ 230 → upM M5 230 0 (M5 204 17) k = M5 k := fun k a => upM_o a
  have x9 : upM M5 230 0 (M5 204 17) 230 0 = M5 204 17 := upM_s
  generalize upM M5 230 0 (M5 204 17) = M6 at *
  have E6 : M6 204 = N 204 := (e6 204 (by decide)).trans E5
  refine m210f (hpN M6 E6) (fun M7 e7 g7 x10 => ?_)
  have E7 : M7 204 = N 204 := (e7 204 (by decide)).trans E6
  refine m210g (hpN M7 E7) (fun M8 e8 g8 x11 => ?_)
  have E8 : M8 204 = N 204 := (e8 204 (by decide)).trans E7
  refine m210h (hpN M8 E8) (fun M9 e9 g9 x12 => ?_)
  have E9 : M9 204 = N 204 := (e9 204 (by decide)).trans E8
  refine t_282 o204 ?_
  have oF : ∀ k : Int, k ≠ 204 → upM (upM (upM M9 204 63 0) 204 56 0) 204 84 0 k = M9 k := fun k a => by rw [upM_o a, upM_o a, upM_o a]
  have uF : ∀ j : Int, j ≠ 63 → j ≠ 56 → j ≠ 84 → upM (upM (upM M9 204 63 0) 204 56 0) 204 84 0 204 j = N 204 j := fun j a b c => by rw [upM_f c, upM_f b, upM_f a, E9]
  have w63 : upM (upM (upM M9 204 63 0) 204 56 0) 204 84 0 204 63 = 0 := rfl
  have w56 : upM (upM (upM M9 204 63 0) 204 56 0) 204 84 0 204 56 = 0 := rfl
  have w84 : upM (upM (upM M9 204 63 0) 204 56 0) 204 84 0 204 84 = 0 := rfl
  generalize upM (upM (upM M9 204 63 0) 204 56 0) 204 84 0 = F at *
  -- where each array was written last
  have s9 : ∀ k : Int, k ≠ 230 → M9 k = M5 k := fun k a => by rw [e9 k a, e8 k a, e7 k a, e6 k a]
  have k5 : ∀ k : Int, k ≠ 204 → ¬ (218 ≤ k ∧ k ≤ 225) → M5 k = M k := fun k a b => by rw [e5 k (by omega), e4 k (by omega) (by omega), e3 k (by omega), e2 k (by omega) (by omega) (by omega), e1 k (by omega), o k a]
  have f218 : F 218 = M1 218 := by rw [oF 218 (by decide), s9 218 (by decide), e5 218 (by decide), e4 218 (by decide) (by decide), e3 218 (by decide), e2 218 (by decide) (by decide) (by decide)]
  have f219 : F 219 = M2 219 := by rw [oF 219 (by decide), s9 219 (by decide), e5 219 (by decide), e4 219 (by decide) (by decide), e3 219 (by decide)]
  have f220 : F 220 = M2 220 := by rw [oF 220 (by decide), s9 220 (by decide), e5 220 (by decide), e4 220 (by decide) (by decide), e3 220 (by decide)]
  have f221 : F 221 = M2 221 := by rw [oF 221 (by decide), s9 221 (by decide), e5 221 (by decide), e4 221 (by decide) (by decide), e3 221 (by decide)]
  have f222 : F 222 = M3 222 := by rw [oF 222 (by decide), s9 222 (by decide), e5 222 (by decide), e4 222 (by decide) (by decide)]
  have f223 : F 223 = M4 223 := by rw [oF 223 (by decide), s9 223 (by decide), e5 223 (by decide)]
  have f224 : F 224 = M4 224 := by rw [oF 224 (by decide), s9 224 (by decide), e5 224 (by decide)]
  have f225 : F 225 = M5 225 := by rw [oF 225 (by decide), s9 225 (by decide)]
  have m1 : ∀ k : Int, k ≠ 204 → k ≠ 218 → M1 k = M k := fun k a b => by rw [e1 k b, o k a]
  have m2 : ∀ k : Int, k ≠ 204 → ¬ (218 ≤ k ∧ k ≤ 221) → M2 k = M k := fun k a b => by rw [e2 k (by omega) (by omega) (by omega), m1 k a (by omega)]
  have m3 : ∀ k : Int, k ≠ 204 → ¬ (218 ≤ k ∧ k ≤ 222) → M3 k = M k := fun k a b => by rw [e3 k (by omega), m2 k a (by omega)]
  have m4 : ∀ k : Int, k ≠ 204 → ¬ (218 ≤ k ∧ k ≤ 224) → M4 k = M k := fun k a b => by rw [e4 k (by omega) (by omega), m3 k a (by omega)]
  have m6 : ∀ k : Int, k ≠ 204 → ¬ (218 ≤ k ∧ k ≤ 225) → k ≠ 230 → M6 k = M k := fun k a b c => by rw [e6 k c, k5 k a b]
  have m7 : ∀ k : Int, k ≠ 204 → ¬ (218 ≤ k ∧ k ≤ 225) → k ≠ 230 → M7 k = M k := fun k a b c => by rw [e7 k c, m6 k a b c]
  have m8 : ∀ k : Int, k ≠ 204 → ¬ (218 ≤ k ∧ k ≤ 225) → k ≠ 230 → M8 k = M k := fun k a b c => by rw [e8 k c, m7 k a b c]
  have r0 : F 230 0 = M 204 17 := by rw [oF 230 (by decide), g9 0 (by decide), g8 0 (by decide), g7 0 (by decide), x9, E5, u 17 (by decide)]
  have r1 : ∀ i : Int, 0 ≤ i → i < 20 → F 230 (1 + i) = M 215 i := fun i a b => by rw [oF 230 (by decide), g9 _ (by omega), g8 _ (by omega), x10 i a b, m6 215 (by decide) (by decide) (by decide)]
  have r2 : ∀ i : Int, 0 ≤ i → i < 240 → F 230 (21 + i) = M 214 i := fun i a b => by rw [oF 230 (by decide), g9 _ (by omega), x11 i a b, m7 214 (by decide) (by decide) (by decide)]
  have r3 : ∀ i : Int, 0 ≤ i → i < 6 → F 230 (261 + i) = M 216 i := fun i a b => by rw [oF 230 (by decide), x12 i a b, m8 216 (by decide) (by decide) (by decide)]
  have hw : Wf g.1 := hg.1
  have n16 := hw.1.1
  have n12 := hw.2.1.1
  have n6 := hw.2.1.2.2.1
  have n20 := hg.2.2.1
  refine hQ F (fun k a b c => by rw [oF k a, s9 k c, k5 k a b]) (fun j a b c d => by rw [uF j c b d, u j a]) w56 w63 w84 ⟨?_, fun s s0 s1 => ⟨?_, ?_, ?_⟩, fun c i0 i1 => ?_⟩ ⟨?_, fun i hi => ⟨?_, fun j j0 j1 => ?_⟩, ?_, fun i hi => ⟨?_, ?_⟩⟩ ⟨?_, ?_, ?_, ?_, ?_, ?_, ?_, ?_, ?_, ?_, ?_⟩ ⟨?_, n20, fun i hi => ⟨?_, fun j j0 j1 => ?_, hg.2.1 i hi⟩⟩ (fun i i0 i1 => ⟨?_, hg.2.2.2.1 i i0 i1⟩)
  · rw [uF 38 (by decide) (by decide) (by decide), v38, a1]
  · rw [f219, x2 s s0 (by omega), m1 208 (by decide) (by decide)]; exact (a2 s s0 s1).1
  · rw [f220, x3 s s0 (by omega), m1 209 (by decide) (by decide)]; exact (a2 s s0 s1).2.1
  · rw [f221, x4 s s0 (by omega), m1 210 (by decide) (by decide)]; exact (a2 s s0 s1).2.2
  · rw [f218, x1 c i0 i1, o 207 (by decide)]; exact a3 c i0 i1
  · rw [uF 39 (by decide) (by decide) (by decide), v39, b1]
  · rw [f223, x6 i (by omega) (by omega), m3 212 (by decide) (by decide)]; exact (b2 i hi).1
  · have hm : (Ltd g.1).getD i [] ∈ Ltd g.1 := by
      rw [List.getD_eq_getElem?_getD, List.getElem?_eq_getElem hi]
      exact List.getElem_mem _
    have := (hw.2.1.2.1 _ hm).2.1
    rw [f222, x5 _ (by omega) (by omega), m2 211 (by decide) (by decide)]
    exact (b2 i hi).2 j j0 j1
  · rw [uF 40 (by decide) (by decide) (by decide), v40, b3]
  · rw [f224, x7 _ (by omega) (by omega), m3 213 (by decide) (by decide)]; exact (b4 i hi).1
  · rw [f224, x7 _ (by omega) (by omega), m3 213 (by decide) (by decide)]; exact (b4 i hi).2
  · rw [uF 41 (by decide) (by decide) (by decide), v41, c0]
  · rw [uF 42 (by decide) (by decide) (by decide), v42, c1]
  · rw [uF 43 (by decide) (by decide) (by decide), v43, c2]
  · rw [uF 44 (by decide) (by decide) (by decide), v44, c9]
  · rw [uF 45 (by decide) (by decide) (by decide), v45, c10]
  · rw [uF 46 (by decide) (by decide) (by decide), v46, c7]
  · rw [uF 47 (by decide) (by decide) (by decide), v47, c8]
  · rw [f225, x8 0 (by decide) (by decide), m4 217 (by decide) (by decide), c3]
  · rw [f225, x8 1 (by decide) (by decide), m4 217 (by decide) (by decide), c4]
  · rw [f225, x8 2 (by decide) (by decide), m4 217 (by decide) (by decide), c5]
  · rw [f225, x8 3 (by decide) (by decide), m4 217 (by decide) (by decide), c6]
  · rw [r0, d1]
  · rw [r1 i (by omega) (by omega)]; exact (d2 i hi).1
  · have := (hg.2.1 i hi).2.1
    rw [show (21 : Int) + 12 * i + j = 21 + (12 * i + j) by omega, r2 _ (by omega) (by omega)]
    exact (d2 i hi).2 j j0 j1
  · rw [r3 i i0 i1]; exact hc i i0 i1
end MPL
