/-! the model takes what it has read: the copies (written by gen/g64.py) -/
section MTK
variable {M M' : Mem} {T : List Int}
theorem zTk : shA SH 207 = (20, 26) ∧ shA SH 208 = (20, 16) ∧ shA SH 209 = (20, 16) ∧ shA SH 210 = (20, 16) ∧ shA SH 211 = (20, 48) ∧ shA SH 212 = (20, 12) ∧ shA SH 213 = (20, 12) ∧ shA SH 214 = (20, 240) ∧ shA SH 215 = (20, 20) ∧ shA SH 216 = (20, 6) ∧ shA SH 217 = (20, 4) := by decide +kernel
theorem zTl : shA SH 218 = (20, 26) ∧ shA SH 219 = (20, 16) ∧ shA SH 220 = (20, 16) ∧ shA SH 221 = (20, 16) ∧ shA SH 222 = (20, 48) ∧ shA SH 223 = (20, 12) ∧ shA SH 224 = (20, 12) ∧ shA SH 225 = (20, 4) ∧ shA SH 226 = (20, 96) ∧ shA SH 227 = (20, 8) ∧ shA SH 228 = (20, 96) ∧ shA SH 229 = (20, 8) ∧ shA SH 230 = (20, 267) := by decide +kernel
theorem m210a {Q : AV → Mem → Prop} (hp : PtrM M) (hQ : ∀ M' : Mem, (∀ k : Int, k ≠ 218 → M' k = M k) → (∀ i : Int, 0 ≤ i → i < 26 → M' 218 (i) = M 207 i) → WR 210 108 [some (vR 204), some (vI 0)] [] M' Q) : WR 210 82 [some (vR 204), some (vI 0)] [] M Q := by
  have ps0 : M 204 27 = 207 := hp.at (by decide)
  have pd0 : M 204 48 = 218 := hp.at (by decide)
  have key : ∀ (n : Nat) (x : Int), x + n = 26 → 0 ≤ x → ∀ N : Mem, (∀ k : Int, k ≠ 218 → N k = M k) → (∀ i : Int, 0 ≤ i → i < x → N 218 (i) = M 207 i) → WR 210 82 [some (vR 204), some (vI x)] [] N Q := by
    intro n
    induction n with
    | zero =>
      intro x hx x0 N e h0
      refine t_210_82 o204 ⟨by omega, ?_⟩
      rw [if_pos (by omega)]
      exact hQ N e (fun i a b => h0 i a (by omega))
    | succ n ih =>
      intro x hx x0 N e h0
      have e4 : N 204 = M 204 := e 204 (by decide)
      have es0 : N 207 = M 207 := e 207 (by decide)
      refine t_210_82 o204 ⟨by omega, ?_⟩
      rw [if_neg (by omega), e4, ps0, pd0, es0]
      refine ⟨gC zTk.1 (by omega) (by show x < ((26 : Nat) : Int); omega), gC zTl.1 (by omega) (by show x < ((26 : Nat) : Int); omega), ih (x + 1) (by omega) (by omega) _ (fun k c0 => by rw [upM_o c0]; exact e k c0) (fun i a b => ?_)⟩
      · by_cases q : i = x
        · rw [q, upM_s]
        · rw [upM_f (by omega)]
          exact h0 i a (by omega)
  exact key 26 0 (by decide) (Int.le_refl 0) M (fun _ _ => rfl) (fun i a b => absurd a (by omega))
theorem m210b {Q : AV → Mem → Prop} (hp : PtrM M) (hQ : ∀ M' : Mem, (∀ k : Int, k ≠ 219 → k ≠ 220 → k ≠ 221 → M' k = M k) → (∀ i : Int, 0 ≤ i → i < 16 → M' 219 (i) = M 208 i) → (∀ i : Int, 0 ≤ i → i < 16 → M' 220 (i) = M 209 i) → (∀ i : Int, 0 ≤ i → i < 16 → M' 221 (i) = M 210 i) → WR 210 158 [some (vR 204), some (vI 0)] [] M' Q) : WR 210 108 [some (vR 204), some (vI 0)] [] M Q := by
  have ps0 : M 204 28 = 208 := hp.at (by decide)
  have pd0 : M 204 49 = 219 := hp.at (by decide)
  have ps1 : M 204 29 = 209 := hp.at (by decide)
  have pd1 : M 204 50 = 220 := hp.at (by decide)
  have ps2 : M 204 30 = 210 := hp.at (by decide)
  have pd2 : M 204 51 = 221 := hp.at (by decide)
  have key : ∀ (n : Nat) (x : Int), x + n = 16 → 0 ≤ x → ∀ N : Mem, (∀ k : Int, k ≠ 219 → k ≠ 220 → k ≠ 221 → N k = M k) → (∀ i : Int, 0 ≤ i → i < x → N 219 (i) = M 208 i) → (∀ i : Int, 0 ≤ i → i < x → N 220 (i) = M 209 i) → (∀ i : Int, 0 ≤ i → i < x → N 221 (i) = M 210 i) → WR 210 108 [some (vR 204), some (vI x)] [] N Q := by
    intro n
    induction n with
    | zero =>
      intro x hx x0 N e h0 h1 h2
      refine t_210_108 o204 ⟨by omega, ?_⟩
      rw [if_pos (by omega)]
      exact hQ N e (fun i a b => h0 i a (by omega)) (fun i a b => h1 i a (by omega)) (fun i a b => h2 i a (by omega))
    | succ n ih =>
      intro x hx x0 N e h0 h1 h2
      have e4 : N 204 = M 204 := e 204 (by decide) (by decide) (by decide)
      have es0 : N 208 = M 208 := e 208 (by decide) (by decide) (by decide)
      have es1 : N 209 = M 209 := e 209 (by decide) (by decide) (by decide)
      have es2 : N 210 = M 210 := e 210 (by decide) (by decide) (by decide)
      refine t_210_108 o204 ⟨by omega, ?_⟩
      rw [if_neg (by omega), e4, ps0, pd0, es0]
      have o0 : ∀ a : Int, a ≠ 219 → (upM N 219 x (M 208 x)) a = N a := fun a c0 => by rw [upM_o c0]
      rw [o0 204 (by decide), e4, ps1, pd1, o0 209 (by decide), es1]
      have o1 : ∀ a : Int, a ≠ 219 → a ≠ 220 → (upM (upM N 219 x (M 208 x)) 220 x (M 209 x)) a = N a := fun a c0 c1 => by rw [upM_o c1, upM_o c0]
      rw [o1 204 (by decide) (by decide), e4, ps2, pd2, o1 210 (by decide) (by decide), es2]
      refine ⟨gC zTk.2.1 (by omega) (by show x < ((16 : Nat) : Int); omega), gC zTl.2.1 (by omega) (by show x < ((16 : Nat) : Int); omega), gC zTk.2.2.1 (by omega) (by show x < ((16 : Nat) : Int); omega), gC zTl.2.2.1 (by omega) (by show x < ((16 : Nat) : Int); omega), gC zTk.2.2.2.1 (by omega) (by show x < ((16 : Nat) : Int); omega), gC zTl.2.2.2.1 (by omega) (by show x < ((16 : Nat) : Int); omega), ih (x + 1) (by omega) (by omega) _ (fun k c0 c1 c2 => by rw [upM_o c2, upM_o c1, upM_o c0]; exact e k c0 c1 c2) (fun i a b => ?_) (fun i a b => ?_) (fun i a b => ?_)⟩
      · by_cases q : i = x
        · rw [upM_o (show (219 : Int) ≠ 221 by decide), upM_o (show (219 : Int) ≠ 220 by decide), q, upM_s]
        · rw [upM_o (show (219 : Int) ≠ 221 by decide), upM_o (show (219 : Int) ≠ 220 by decide), upM_f (by omega)]
          exact h0 i a (by omega)
      · by_cases q : i = x
        · rw [upM_o (show (220 : Int) ≠ 221 by decide), q, upM_s]
        · rw [upM_o (show (220 : Int) ≠ 221 by decide), upM_f (by omega), upM_o (show (220 : Int) ≠ 219 by decide)]
          exact h1 i a (by omega)
      · by_cases q : i = x
        · rw [q, upM_s]
        · rw [upM_f (by omega), upM_o (show (221 : Int) ≠ 220 by decide), upM_o (show (221 : Int) ≠ 219 by decide)]
          exact h2 i a (by omega)
  exact key 16 0 (by decide) (Int.le_refl 0) M (fun _ _ _ _ => rfl) (fun i a b => absurd a (by omega)) (fun i a b => absurd a (by omega)) (fun i a b => absurd a (by omega))
theorem m210c {Q : AV → Mem → Prop} (hp : PtrM M) (hQ : ∀ M' : Mem, (∀ k : Int, k ≠ 222 → M' k = M k) → (∀ i : Int, 0 ≤ i → i < 48 → M' 222 (i) = M 211 i) → WR 210 184 [some (vR 204), some (vI 0)] [] M' Q) : WR 210 158 [some (vR 204), some (vI 0)] [] M Q := by
  have ps0 : M 204 31 = 211 := hp.at (by decide)
  have pd0 : M 204 52 = 222 := hp.at (by decide)
  have key : ∀ (n : Nat) (x : Int), x + n = 48 → 0 ≤ x → ∀ N : Mem, (∀ k : Int, k ≠ 222 → N k = M k) → (∀ i : Int, 0 ≤ i → i < x → N 222 (i) = M 211 i) → WR 210 158 [some (vR 204), some (vI x)] [] N Q := by
    intro n
    induction n with
    | zero =>
      intro x hx x0 N e h0
      refine t_210_158 o204 ⟨by omega, ?_⟩
      rw [if_pos (by omega)]
      exact hQ N e (fun i a b => h0 i a (by omega))
    | succ n ih =>
      intro x hx x0 N e h0
      have e4 : N 204 = M 204 := e 204 (by decide)
      have es0 : N 211 = M 211 := e 211 (by decide)
      refine t_210_158 o204 ⟨by omega, ?_⟩
      rw [if_neg (by omega), e4, ps0, pd0, es0]
      refine ⟨gC zTk.2.2.2.2.1 (by omega) (by show x < ((48 : Nat) : Int); omega), gC zTl.2.2.2.2.1 (by omega) (by show x < ((48 : Nat) : Int); omega), ih (x + 1) (by omega) (by omega) _ (fun k c0 => by rw [upM_o c0]; exact e k c0) (fun i a b => ?_)⟩
      · by_cases q : i = x
        · rw [q, upM_s]
        · rw [upM_f (by omega)]
          exact h0 i a (by omega)
  exact key 48 0 (by decide) (Int.le_refl 0) M (fun _ _ => rfl) (fun i a b => absurd a (by omega))
theorem m210d {Q : AV → Mem → Prop} (hp : PtrM M) (hQ : ∀ M' : Mem, (∀ k : Int, k ≠ 223 → k ≠ 224 → M' k = M k) → (∀ i : Int, 0 ≤ i → i < 12 → M' 223 (i) = M 212 i) → (∀ i : Int, 0 ≤ i → i < 12 → M' 224 (i) = M 213 i) → WR 210 222 [some (vR 204), some (vI 0)] [] M' Q) : WR 210 184 [some (vR 204), some (vI 0)] [] M Q := by
  have ps0 : M 204 32 = 212 := hp.at (by decide)
  have pd0 : M 204 53 = 223 := hp.at (by decide)
  have ps1 : M 204 33 = 213 := hp.at (by decide)
  have pd1 : M 204 54 = 224 := hp.at (by decide)
  have key : ∀ (n : Nat) (x : Int), x + n = 12 → 0 ≤ x → ∀ N : Mem, (∀ k : Int, k ≠ 223 → k ≠ 224 → N k = M k) → (∀ i : Int, 0 ≤ i → i < x → N 223 (i) = M 212 i) → (∀ i : Int, 0 ≤ i → i < x → N 224 (i) = M 213 i) → WR 210 184 [some (vR 204), some (vI x)] [] N Q := by
    intro n
    induction n with
    | zero =>
      intro x hx x0 N e h0 h1
      refine t_210_184 o204 ⟨by omega, ?_⟩
      rw [if_pos (by omega)]
      exact hQ N e (fun i a b => h0 i a (by omega)) (fun i a b => h1 i a (by omega))
    | succ n ih =>
      intro x hx x0 N e h0 h1
      have e4 : N 204 = M 204 := e 204 (by decide) (by decide)
      have es0 : N 212 = M 212 := e 212 (by decide) (by decide)
      have es1 : N 213 = M 213 := e 213 (by decide) (by decide)
      refine t_210_184 o204 ⟨by omega, ?_⟩
      rw [if_neg (by omega), e4, ps0, pd0, es0]
      have o0 : ∀ a : Int, a ≠ 223 → (upM N 223 x (M 212 x)) a = N a := fun a c0 => by rw [upM_o c0]
      rw [o0 204 (by decide), e4, ps1, pd1, o0 213 (by decide), es1]
      refine ⟨gC zTk.2.2.2.2.2.1 (by omega) (by show x < ((12 : Nat) : Int); omega), gC zTl.2.2.2.2.2.1 (by omega) (by show x < ((12 : Nat) : Int); omega), gC zTk.2.2.2.2.2.2.1 (by omega) (by show x < ((12 : Nat) : Int); omega), gC zTl.2.2.2.2.2.2.1 (by omega) (by show x < ((12 : Nat) : Int); omega), ih (x + 1) (by omega) (by omega) _ (fun k c0 c1 => by rw [upM_o c1, upM_o c0]; exact e k c0 c1) (fun i a b => ?_) (fun i a b => ?_)⟩
      · by_cases q : i = x
        · rw [upM_o (show (223 : Int) ≠ 224 by decide), q, upM_s]
        · rw [upM_o (show (223 : Int) ≠ 224 by decide), upM_f (by omega)]
          exact h0 i a (by omega)
      · by_cases q : i = x
        · rw [q, upM_s]
        · rw [upM_f (by omega), upM_o (show (224 : Int) ≠ 223 by decide)]
          exact h1 i a (by omega)
  exact key 12 0 (by decide) (Int.le_refl 0) M (fun _ _ _ => rfl) (fun i a b => absurd a (by omega)) (fun i a b => absurd a (by omega))
theorem m210e {Q : AV → Mem → Prop} (hp : PtrM M) (hQ : ∀ M' : Mem, (∀ k : Int, k ≠ 225 → M' k = M k) → (∀ i : Int, 0 ≤ i → i < 4 → M' 225 (i) = M 217 i) → gA 20 (M' 204 61) 0 ∧ WR 210 257 [some (vR 204), some (vI 0)] [] (upM M' (M' 204 61) 0 (M' 204 17)) Q) : WR 210 222 [some (vR 204), some (vI 0)] [] M Q := by
  have ps0 : M 204 37 = 217 := hp.at (by decide)
  have pd0 : M 204 55 = 225 := hp.at (by decide)
  have key : ∀ (n : Nat) (x : Int), x + n = 4 → 0 ≤ x → ∀ N : Mem, (∀ k : Int, k ≠ 225 → N k = M k) → (∀ i : Int, 0 ≤ i → i < x → N 225 (i) = M 217 i) → WR 210 222 [some (vR 204), some (vI x)] [] N Q := by
    intro n
    induction n with
    | zero =>
      intro x hx x0 N e h0
      refine t_210_222 o204 ⟨by omega, ?_⟩
      rw [if_pos (by omega)]
      exact hQ N e (fun i a b => h0 i a (by omega))
    | succ n ih =>
      intro x hx x0 N e h0
      have e4 : N 204 = M 204 := e 204 (by decide)
      have es0 : N 217 = M 217 := e 217 (by decide)
      refine t_210_222 o204 ⟨by omega, ?_⟩
      rw [if_neg (by omega), e4, ps0, pd0, es0]
      refine ⟨gC zTk.2.2.2.2.2.2.2.2.2.2 (by omega) (by show x < ((4 : Nat) : Int); omega), gC zTl.2.2.2.2.2.2.2.1 (by omega) (by show x < ((4 : Nat) : Int); omega), ih (x + 1) (by omega) (by omega) _ (fun k c0 => by rw [upM_o c0]; exact e k c0) (fun i a b => ?_)⟩
      · by_cases q : i = x
        · rw [q, upM_s]
        · rw [upM_f (by omega)]
          exact h0 i a (by omega)
  exact key 4 0 (by decide) (Int.le_refl 0) M (fun _ _ => rfl) (fun i a b => absurd a (by omega))
theorem m210f {Q : AV → Mem → Prop} (hp : PtrM M) (hQ : ∀ M' : Mem, (∀ k : Int, k ≠ 230 → M' k = M k) → (∀ i : Int, (i < 1 ∨ 21 ≤ i) → M' 230 i = M 230 i) → (∀ i : Int, 0 ≤ i → i < 20 → M' 230 (1 + i) = M 215 i) → WR 210 285 [some (vR 204), some (vI 0)] [] M' Q) : WR 210 257 [some (vR 204), some (vI 0)] [] M Q := by
  have ps0 : M 204 35 = 215 := hp.at (by decide)
  have pd0 : M 204 61 = 230 := hp.at (by decide)
  have key : ∀ (n : Nat) (x : Int), x + n = 20 → 0 ≤ x → ∀ N : Mem, (∀ k : Int, k ≠ 230 → N k = M k) → (∀ i : Int, (i < 1 ∨ 21 ≤ i) → N 230 i = M 230 i) → (∀ i : Int, 0 ≤ i → i < x → N 230 (1 + i) = M 215 i) → WR 210 257 [some (vR 204), some (vI x)] [] N Q := by
    intro n
    induction n with
    | zero =>
      intro x hx x0 N e ho h0
      refine t_210_257 o204 ⟨by omega, ?_⟩
      rw [if_pos (by omega)]
      exact hQ N e ho (fun i a b => h0 i a (by omega))
    | succ n ih =>
      intro x hx x0 N e ho h0
      have e4 : N 204 = M 204 := e 204 (by decide)
      have es0 : N 215 = M 215 := e 215 (by decide)
      refine t_210_257 o204 ⟨by omega, ?_⟩
      rw [if_neg (by omega), e4, ps0, pd0, es0]
      refine ⟨gC zTk.2.2.2.2.2.2.2.2.1 (by omega) (by show x < ((20 : Nat) : Int); omega), gC zTl.2.2.2.2.2.2.2.2.2.2.2.2 (by omega) (by show 1 + x < ((267 : Nat) : Int); omega), ih (x + 1) (by omega) (by omega) _ (fun k c0 => by rw [upM_o c0]; exact e k c0) (fun i a => by rw [upM_f (by omega)]; exact ho i a) (fun i a b => ?_)⟩
      · by_cases q : i = x
        · rw [q, upM_s]
        · rw [upM_f (by omega)]
          exact h0 i a (by omega)
  exact key 20 0 (by decide) (Int.le_refl 0) M (fun _ _ => rfl) (fun _ _ => rfl) (fun i a b => absurd a (by omega))
theorem m210g {Q : AV → Mem → Prop} (hp : PtrM M) (hQ : ∀ M' : Mem, (∀ k : Int, k ≠ 230 → M' k = M k) → (∀ i : Int, (i < 21 ∨ 261 ≤ i) → M' 230 i = M 230 i) → (∀ i : Int, 0 ≤ i → i < 240 → M' 230 (21 + i) = M 214 i) → WR 210 315 [some (vR 204), some (vI 0)] [] M' Q) : WR 210 285 [some (vR 204), some (vI 0)] [] M Q := by
  have ps0 : M 204 34 = 214 := hp.at (by decide)
  have pd0 : M 204 61 = 230 := hp.at (by decide)
  have key : ∀ (n : Nat) (x : Int), x + n = 240 → 0 ≤ x → ∀ N : Mem, (∀ k : Int, k ≠ 230 → N k = M k) → (∀ i : Int, (i < 21 ∨ 261 ≤ i) → N 230 i = M 230 i) → (∀ i : Int, 0 ≤ i → i < x → N 230 (21 + i) = M 214 i) → WR 210 285 [some (vR 204), some (vI x)] [] N Q := by
    intro n
    induction n with
    | zero =>
      intro x hx x0 N e ho h0
      refine t_210_285 o204 ⟨by omega, ?_⟩
      rw [if_pos (by omega)]
      exact hQ N e ho (fun i a b => h0 i a (by omega))
    | succ n ih =>
      intro x hx x0 N e ho h0
      have e4 : N 204 = M 204 := e 204 (by decide)
      have es0 : N 214 = M 214 := e 214 (by decide)
      refine t_210_285 o204 ⟨by omega, ?_⟩
      rw [if_neg (by omega), e4, ps0, pd0, es0]
      refine ⟨gC zTk.2.2.2.2.2.2.2.1 (by omega) (by show x < ((240 : Nat) : Int); omega), gC zTl.2.2.2.2.2.2.2.2.2.2.2.2 (by omega) (by show 21 + x < ((267 : Nat) : Int); omega), ih (x + 1) (by omega) (by omega) _ (fun k c0 => by rw [upM_o c0]; exact e k c0) (fun i a => by rw [upM_f (by omega)]; exact ho i a) (fun i a b => ?_)⟩
      · by_cases q : i = x
        · rw [q, upM_s]
        · rw [upM_f (by omega)]
          exact h0 i a (by omega)
  exact key 240 0 (by decide) (Int.le_refl 0) M (fun _ _ => rfl) (fun _ _ => rfl) (fun i a b => absurd a (by omega))
theorem m210h {Q : AV → Mem → Prop} (hp : PtrM M) (hQ : ∀ M' : Mem, (∀ k : Int, k ≠ 230 → M' k = M k) → (∀ i : Int, (i < 261 ∨ 267 ≤ i) → M' 230 i = M 230 i) → (∀ i : Int, 0 ≤ i → i < 6 → M' 230 (261 + i) = M 216 i) → WV 282 [vR 204] (upM (upM M' 204 63 0) 204 56 0) (fun M2 => Q (vI 0) M2)) : WR 210 315 [some (vR 204), some (vI 0)] [] M Q := by
  have ps0 : M 204 36 = 216 := hp.at (by decide)
  have pd0 : M 204 61 = 230 := hp.at (by decide)
  have key : ∀ (n : Nat) (x : Int), x + n = 6 → 0 ≤ x → ∀ N : Mem, (∀ k : Int, k ≠ 230 → N k = M k) → (∀ i : Int, (i < 261 ∨ 267 ≤ i) → N 230 i = M 230 i) → (∀ i : Int, 0 ≤ i → i < x → N 230 (261 + i) = M 216 i) → WR 210 315 [some (vR 204), some (vI x)] [] N Q := by
    intro n
    induction n with
    | zero =>
      intro x hx x0 N e ho h0
      refine t_210_315 o204 ⟨by omega, ?_⟩
      rw [if_pos (by omega)]
      exact hQ N e ho (fun i a b => h0 i a (by omega))
    | succ n ih =>
      intro x hx x0 N e ho h0
      have e4 : N 204 = M 204 := e 204 (by decide)
      have es0 : N 216 = M 216 := e 216 (by decide)
      refine t_210_315 o204 ⟨by omega, ?_⟩
      rw [if_neg (by omega), e4, ps0, pd0, es0]
      refine ⟨gC zTk.2.2.2.2.2.2.2.2.2.1 (by omega) (by show x < ((6 : Nat) : Int); omega), gC zTl.2.2.2.2.2.2.2.2.2.2.2.2 (by omega) (by show 261 + x < ((267 : Nat) : Int); omega), ih (x + 1) (by omega) (by omega) _ (fun k c0 => by rw [upM_o c0]; exact e k c0) (fun i a => by rw [upM_f (by omega)]; exact ho i a) (fun i a b => ?_)⟩
      · by_cases q : i = x
        · rw [q, upM_s]
        · rw [upM_f (by omega)]
          exact h0 i a (by omega)
  exact key 6 0 (by decide) (Int.le_refl 0) M (fun _ _ => rfl) (fun _ _ => rfl) (fun i a b => absurd a (by omega))
theorem m211y {Q : AV → Mem → Prop} {z : Int} (hp : PtrM M) (hQ : ∀ M' : Mem, (∀ k : Int, k ≠ 226 → M' k = M k) → (∀ i : Int, 0 ≤ i → i < 96 → M' 226 (i) = M 228 i) → WR 211 234 [some (vR 204), some (vI z), some (vI 0)] [] M' Q) : WR 211 208 [some (vR 204), some (vI z), some (vI 0)] [] M Q := by
  have ps0 : M 204 59 = 228 := hp.at (by decide)
  have pd0 : M 204 57 = 226 := hp.at (by decide)
  have key : ∀ (n : Nat) (x : Int), x + n = 96 → 0 ≤ x → ∀ N : Mem, (∀ k : Int, k ≠ 226 → N k = M k) → (∀ i : Int, 0 ≤ i → i < x → N 226 (i) = M 228 i) → WR 211 208 [some (vR 204), some (vI z), some (vI x)] [] N Q := by
    intro n
    induction n with
    | zero =>
      intro x hx x0 N e h0
      refine t_211_208 o204 ⟨by omega, ?_⟩
      rw [if_pos (by omega)]
      exact hQ N e (fun i a b => h0 i a (by omega))
    | succ n ih =>
      intro x hx x0 N e h0
      have e4 : N 204 = M 204 := e 204 (by decide)
      have es0 : N 228 = M 228 := e 228 (by decide)
      refine t_211_208 o204 ⟨by omega, ?_⟩
      rw [if_neg (by omega), e4, ps0, pd0, es0]
      refine ⟨gC zTl.2.2.2.2.2.2.2.2.2.2.1 (by omega) (by show x < ((96 : Nat) : Int); omega), gC zTl.2.2.2.2.2.2.2.2.1 (by omega) (by show x < ((96 : Nat) : Int); omega), ih (x + 1) (by omega) (by omega) _ (fun k c0 => by rw [upM_o c0]; exact e k c0) (fun i a b => ?_)⟩
      · by_cases q : i = x
        · rw [q, upM_s]
        · rw [upM_f (by omega)]
          exact h0 i a (by omega)
  exact key 96 0 (by decide) (Int.le_refl 0) M (fun _ _ => rfl) (fun i a b => absurd a (by omega))
theorem m211z {Q : AV → Mem → Prop} {z : Int} (hp : PtrM M) (hQ : ∀ M' : Mem, (∀ k : Int, k ≠ 227 → M' k = M k) → (∀ i : Int, 0 ≤ i → i < 8 → M' 227 (i) = M 229 i) → Q (vI z) (upM M' 204 56 z)) : WR 211 234 [some (vR 204), some (vI z), some (vI 0)] [] M Q := by
  have ps0 : M 204 60 = 229 := hp.at (by decide)
  have pd0 : M 204 58 = 227 := hp.at (by decide)
  have key : ∀ (n : Nat) (x : Int), x + n = 8 → 0 ≤ x → ∀ N : Mem, (∀ k : Int, k ≠ 227 → N k = M k) → (∀ i : Int, 0 ≤ i → i < x → N 227 (i) = M 229 i) → WR 211 234 [some (vR 204), some (vI z), some (vI x)] [] N Q := by
    intro n
    induction n with
    | zero =>
      intro x hx x0 N e h0
      refine t_211_234 o204 ⟨by omega, ?_⟩
      rw [if_pos (by omega)]
      exact hQ N e (fun i a b => h0 i a (by omega))
    | succ n ih =>
      intro x hx x0 N e h0
      have e4 : N 204 = M 204 := e 204 (by decide)
      have es0 : N 229 = M 229 := e 229 (by decide)
      refine t_211_234 o204 ⟨by omega, ?_⟩
      rw [if_neg (by omega), e4, ps0, pd0, es0]
      refine ⟨gC zTl.2.2.2.2.2.2.2.2.2.2.2.1 (by omega) (by show x < ((8 : Nat) : Int); omega), gC zTl.2.2.2.2.2.2.2.2.2.1 (by omega) (by show x < ((8 : Nat) : Int); omega), ih (x + 1) (by omega) (by omega) _ (fun k c0 => by rw [upM_o c0]; exact e k c0) (fun i a b => ?_)⟩
      · by_cases q : i = x
        · rw [q, upM_s]
        · rw [upM_f (by omega)]
          exact h0 i a (by omega)
  exact key 8 0 (by decide) (Int.le_refl 0) M (fun _ _ => rfl) (fun i a b => absurd a (by omega))
end MTK
