/-! the model's reader: faults, names, numbers -/
section MR
variable {M M' : Mem} {ft fp : Int} {T : List Int} {t : Tk}
/-- the model's bytes and token while it reads -/
def TmR (M : Mem) (T : List Int) (t : Tk) (ft fp : Int) : Prop := TmB M T ∧ TokM M T t ∧ TkOk T t ∧ M 204 8 = ft ∧ M 204 9 = fp
def FrJ (M M' : Mem) : Prop := (∀ k : Int, k ≠ 204 → k ≠ 206 → M' k = M k) ∧ ∀ j : Int, (j < 3 ∨ 9 < j) → j ≠ 13 → M' 204 j = M 204 j
theorem FrJ.rf : FrJ M M := ⟨fun _ _ _ => rfl, fun _ _ _ => rfl⟩
theorem FrJ.tr {M1 M2 : Mem} (h : FrJ M M1) (g : FrJ M1 M2) : FrJ M M2 := ⟨fun k a b => (g.1 k a b).trans (h.1 k a b), fun j a b => (g.2 j a b).trans (h.2 j a b)⟩
theorem FrV.j (h : FrV M M') : FrJ M M' := ⟨h.1, fun j a b => h.2 j (by omega) b⟩
theorem FrJ.up {i v : Int} (hi : 8 ≤ i ∧ i ≤ 9) : FrJ M (upM M 204 i v) := ⟨fun k a _ => upM_o a, fun j a b => upM_f (by omega)⟩
def nx (T : List Int) (t : Tk) : Tk := nxt T (t.2.1 + t.2.2)
theorem TmR.sp (h : TmR M T t ft fp) : (0 ≤ t.1 ∧ t.1 ≤ 4) ∧ M 204 5 = t.1 ∧ M 204 4 = t.2.1 ∧ M 204 8 = ft ∧ M 204 9 = fp := ⟨h.2.2.1.2.2.2.2.1, h.2.1.2.2.1, h.2.1.2.1, h.2.2.2.1, h.2.2.2.2⟩
theorem TmR.fl {x y : Int} (h : TmR M T t ft fp) : TmR (upM (upM M 204 8 x) 204 9 y) T t x y := by
  obtain ⟨⟨⟨p0, p12⟩, b1, b2, b3, b4⟩, ⟨k1, k2, k3, k4, k5, k6⟩, ok, f8, f9⟩ := h
  have o : ∀ j : Int, j ≠ 8 → j ≠ 9 → upM (upM M 204 8 x) 204 9 y 204 j = M 204 j := fun j a b => by rw [upM_f b, upM_f a]
  have oo : ∀ k : Int, k ≠ 204 → upM (upM M 204 8 x) 204 9 y k = M k := fun k a => by rw [upM_o a, upM_o a]
  refine ⟨⟨⟨by rw [o 0 (by decide) (by decide)]; exact p0, by rw [o 12 (by decide) (by decide)]; exact p12⟩, by rw [o 2 (by decide) (by decide)]; exact b1, b2, b3, fun j hj => by rw [oo 205 (by decide)]; exact b4 j hj⟩, ⟨by rw [o 3 (by decide) (by decide)]; exact k1, by rw [o 4 (by decide) (by decide)]; exact k2, by rw [o 5 (by decide) (by decide)]; exact k3, fun z => by rw [o 6 (by decide) (by decide)]; exact k4 z, fun z => by rw [o 7 (by decide) (by decide), o 13 (by decide) (by decide), oo 206 (by decide)]; exact k5 z, by rw [o 7 (by decide) (by decide)]; exact k6⟩, ok, by rw [upM_f (by decide), upM_s], upM_s⟩
theorem m188 {Q : Mem → Prop} {x : Int} (h : TmR M T t ft fp) (hf : 0 ≤ ft ∧ ft ≤ 5) (hQ : ∀ M' : Mem, FrJ M M' → TmR M' T t (if ft = 0 then (if t.1 = 4 then 1 else x) else ft) (if ft = 0 then (t.2.1 : Int) else fp) → Q M') : WV 188 [vR 204, vI x] M Q := by
  obtain ⟨k4, f5, f4, f8, f9⟩ := h.sp
  refine t_188 o204 ?_
  rw [f8, f5]
  refine ⟨by omega, ?_⟩
  by_cases q : ft = 0
  · rw [if_pos (by omega), upM_f (by decide), f4, upM_f (by decide), f4]
    rw [if_pos q, if_pos q] at hQ
    refine ⟨by omega, ?_⟩
    by_cases q1 : t.1 = 4
    · rw [if_pos q1]
      rw [if_pos q1] at hQ
      exact hQ _ ((FrJ.up (by decide)).tr (FrJ.up (by decide))) h.fl
    · rw [if_neg q1]
      rw [if_neg q1] at hQ
      exact hQ _ ((FrJ.up (by decide)).tr (FrJ.up (by decide))) h.fl
  · rw [if_neg (by omega)]
    rw [if_neg q, if_neg q] at hQ
    exact hQ M FrJ.rf h
theorem m189 {Q : Int → Mem → Prop} (h : M 204 8 = ft) (hf : 0 ≤ ft ∧ ft ≤ 5) : WI 189 [vR 204] M Q = Q (b2i (decide (ft = 0))) M := by
  refine FN.wi (WC.fn (t_189 o204 ?_))
  rw [h]
  refine ⟨by omega, ?_⟩
  by_cases q : ft = 0
  · rw [if_pos q, decide_eq_true q]; exact ⟨rfl, rfl⟩
  · rw [if_neg q, decide_eq_false q]; exact ⟨rfl, rfl⟩
theorem m187n' {Q : Mem → Prop} (h : TmR M T t ft fp) (hQ : ∀ M' : Mem, FrJ M M' → TmR M' T (nx T t) ft fp → Q M') : WV 187 [vR 204] M Q :=
  m187 h.1 h.2.1.1 h.2.2.1.1 (fun M' g k => hQ M' g.j ⟨h.1.fr g, k, (nxt_ok h.2.2.1.1).1, by rw [g.2 8 (by decide) (by decide)]; exact h.2.2.2.1, by rw [g.2 9 (by decide) (by decide)]; exact h.2.2.2.2⟩)
theorem ky_r {A : List Int} {s : Nat} : ∀ n : Nat, (∀ k : Nat, k < n → 97 ≤ bt A (s + k) ∧ bt A (s + k) ≤ 122) → 0 ≤ ky A s n ∧ ky A s n < 27 ^ n := by
  intro n
  induction n with
  | zero => exact fun _ => ⟨Int.le_refl 0, (show (0 : Int) < 1 by decide)⟩
  | succ n ih =>
    intro hb
    obtain ⟨h1, h2⟩ := ih (fun k hk => hb k (by omega))
    have := hb n (by omega)
    have e : ky A s (n + 1) = ky A s n * 27 + bt A (s + n) - 96 := rfl
    rw [e, Int.pow_succ]
    omega
theorem ky_64 {A : List Int} {s n : Nat} (hn : n ≤ 12) (hb : ∀ k : Nat, k < n → 97 ≤ bt A (s + k) ∧ bt A (s + k) ≤ 122) : in64 (ky A s n) := by
  obtain ⟨h1, h2⟩ := ky_r n hb
  have e : (27 : Int) ^ n ≤ 150094635296999121 := by
    have : n = 0 ∨ n = 1 ∨ n = 2 ∨ n = 3 ∨ n = 4 ∨ n = 5 ∨ n = 6 ∨ n = 7 ∨ n = 8 ∨ n = 9 ∨ n = 10 ∨ n = 11 ∨ n = 12 := by omega
    rcases this with z | z | z | z | z | z | z | z | z | z | z | z | z <;> rw [z] <;> decide
  unfold in64
  omega
theorem ky_inj {A B : List Int} {s u : Nat} : ∀ n m : Nat, (∀ k : Nat, k < n → 97 ≤ bt A (s + k) ∧ bt A (s + k) ≤ 122) → (∀ k : Nat, k < m → 97 ≤ bt B (u + k) ∧ bt B (u + k) ≤ 122) → ky A s n = ky B u m → n = m ∧ ∀ k : Nat, k < n → bt A (s + k) = bt B (u + k) := by
  intro n
  induction n with
  | zero =>
    intro m _ hB e
    cases m with
    | zero => exact ⟨rfl, fun k hk => absurd hk (Nat.not_lt_zero _)⟩
    | succ m =>
      have h1 := (ky_r m (fun k hk => hB k (by omega))).1
      have := hB m (by omega)
      have e2 : ky B u (m + 1) = ky B u m * 27 + bt B (u + m) - 96 := rfl
      have e1 : ky A s 0 = 0 := rfl
      omega
  | succ n ih =>
    intro m hA hB e
    have a1 := (ky_r n (fun k hk => hA k (by omega))).1
    have a2 := hA n (by omega)
    have e1 : ky A s (n + 1) = ky A s n * 27 + bt A (s + n) - 96 := rfl
    cases m with
    | zero =>
      have e2 : ky B u 0 = 0 := rfl
      omega
    | succ m =>
      have h1 := (ky_r m (fun k hk => hB k (by omega))).1
      have := hB m (by omega)
      have e2 : ky B u (m + 1) = ky B u m * 27 + bt B (u + m) - 96 := rfl
      obtain ⟨y1, y2⟩ := ih m (fun k hk => hA k (by omega)) (fun k hk => hB k (by omega)) (by omega)
      refine ⟨by omega, fun k hk => ?_⟩
      by_cases q : k = n
      · rw [q]
        subst y1
        omega
      · exact y2 k (by omega)
theorem m190 {Q : Int → Mem → Prop} {i : Nat} {x : Int} (h : TmR M T t ft fp) (hf : 0 ≤ ft ∧ ft ≤ 5) (hi : i < 18) (hx : x = ky (kw i) 0 (kw i).length) : WI 190 [vR 204, vL x] M Q = Q (b2i (decide (ft = 0 ∧ t.1 = 1 ∧ tx T t = kw i))) M := by
  obtain ⟨k4, f5, f4, f8, f9⟩ := h.sp
  have hsn := h.2.2.1.1
  refine FN.wi (WC.fn (t_190 o204 ?_))
  rw [f8, f5]
  refine ⟨by omega, ?_⟩
  by_cases q : ft = 0
  rotate_left
  · rw [if_neg q, decide_eq_false (fun z => q z.1)]; exact ⟨rfl, rfl⟩
  rw [if_pos q]
  refine ⟨by omega, ?_⟩
  by_cases q1 : t.1 = 1
  rotate_left
  · rw [if_neg q1, decide_eq_false (fun z => q1 z.2.1)]; exact ⟨rfl, rfl⟩
  obtain ⟨l1, l2, l3⟩ := h.2.2.1.2.1 q1
  have hkw := kw_r hi
  have hB : ∀ k : Nat, k < (kw i).length → 97 ≤ bt (kw i) (0 + k) ∧ bt (kw i) (0 + k) ≤ 122 := fun k hk => by
    rw [Nat.zero_add]
    exact kw_at hi hk
  have i1 := ky_64 l2 l3
  have i2 := ky_64 hkw.2.1 hB
  rw [← hx] at i2
  rw [if_pos q1, (h.2.1.2.2.2.2.1 q1).2.1]
  have hiff : ky T t.2.1 t.2.2 = x ↔ tx T t = kw i := by
    rw [tx_eq hsn, hx]
    constructor
    · intro e
      obtain ⟨y1, y2⟩ := ky_inj _ _ l3 hB e
      refine ⟨y1, fun k hk => ?_⟩
      have := y2 k (by omega)
      rw [Nat.zero_add] at this
      exact this
    · intro ⟨y1, y2⟩
      have : ∀ n : Nat, n ≤ t.2.2 → ky T t.2.1 n = ky (kw i) 0 n := by
        intro n
        induction n with
        | zero => exact fun _ => rfl
        | succ n ih =>
          intro hn
          have e1 : ky T t.2.1 (n + 1) = ky T t.2.1 n * 27 + bt T (t.2.1 + n) - 96 := rfl
          have e2 : ky (kw i) 0 (n + 1) = ky (kw i) 0 n * 27 + bt (kw i) (0 + n) - 96 := rfl
          rw [e1, e2, ih (by omega), y2 n (by omega), Nat.zero_add]
          rfl
      rw [this _ (Nat.le_refl _), y1]
  refine ⟨⟨i1, i2⟩, by split; decide; split <;> decide, ?_⟩
  by_cases q2 : tx T t = kw i
  · have e := hiff.mpr q2
    rw [if_pos (by rw [if_neg (by omega), if_pos e]), decide_eq_true ⟨q, q1, q2⟩]
    exact ⟨rfl, rfl⟩
  · have e : ¬ ky T t.2.1 t.2.2 = x := fun z => q2 (hiff.mp z)
    rw [if_neg (by split <;> decide), decide_eq_false (fun z => q2 z.2.2)]
    exact ⟨rfl, rfl⟩
/-- a number: its fault -/
def nEr (T : List Int) (t : Tk) (lo hi : Int) : Int := if t.1 ≠ 2 then wrg t else if nmv T t.2.1 t.2.2 < lo ∨ hi < nmv T t.2.1 t.2.2 then 4 else 0
theorem wrg_r : 1 ≤ wrg t ∧ wrg t ≤ 2 := by unfold wrg; split <;> omega
theorem m192f {Q : Int → Mem → Prop} {lo hi : Int} (h : M 204 8 = ft) (hf : 1 ≤ ft ∧ ft ≤ 5) (hQ : ∀ v, Q v M) : WI 192 [vR 204, vI lo, vI hi] M Q := by
  have d : decide (ft = 0) = false := decide_eq_false (by omega)
  have m := fun {P : Int → Mem → Prop} => (m189 (Q := P) h ⟨by omega, hf.2⟩).trans (by rw [d])
  refine t_192 o204 ?_
  rw [m]
  refine ⟨by decide, ?_⟩
  rw [if_pos (by decide), m]
  refine ⟨by decide, ?_⟩
  rw [if_pos (by decide), m]
  refine ⟨by decide, ?_⟩
  rw [if_pos (by decide)]
  exact ⟨_, rfl, hQ _⟩
theorem m192 {Q : Int → Mem → Prop} {lo hi : Int} (h : TmR M T t 0 fp) (hlo : 0 ≤ lo ∧ lo ≤ 999) (hhi : 0 ≤ hi ∧ hi ≤ 999) (hQ : ∀ (M' : Mem) (v : Int), FrJ M M' → (if nEr T t lo hi = 0 then v = nmv T t.2.1 t.2.2 ∧ TmR M' T (nx T t) 0 fp else TmR M' T t (nEr T t lo hi) t.2.1) → Q v M') : WI 192 [vR 204, vI lo, vI hi] M Q := by
  obtain ⟨k4, f5, f4, f8, f9⟩ := h.sp
  have m := fun {P : Int → Mem → Prop} {N : Mem} (e : N 204 8 = 0) => (m189 (M := N) (Q := P) e ⟨by decide, by decide⟩)
  refine t_192 o204 ?_
  rw [m f8]
  refine ⟨by decide, ?_⟩
  rw [if_neg (by decide), f5]
  refine ⟨by omega, ?_⟩
  by_cases q : t.1 = 2
  rotate_left
  · rw [if_neg q]
    refine m188 h (by decide) (fun M1 g1 h1 => ?_)
    have en : nEr T t lo hi = wrg t := by unfold nEr; rw [if_pos q]
    have ew : (if (0 : Int) = 0 then (if t.1 = 4 then (1 : Int) else 2) else 0) = wrg t := by rw [if_pos rfl]; rfl
    rw [ew, if_pos rfl] at h1
    have wr := @wrg_r t
    have d : decide (wrg t = 0) = false := decide_eq_false (by omega)
    have m' := fun {P : Int → Mem → Prop} => (m189 (Q := P) h1.sp.2.2.2.1 ⟨by omega, by omega⟩).trans (by rw [d])
    rw [m']
    refine ⟨by decide, ?_⟩
    rw [if_pos (by decide), m']
    refine ⟨by decide, ?_⟩
    rw [if_pos (by decide)]
    refine ⟨_, rfl, hQ M1 _ g1 ?_⟩
    rw [en, if_neg (by omega)]
    exact h1
  have nr := nmv_k h.2.2.1 q
  rw [if_pos q, m f8]
  refine ⟨by decide, ?_⟩
  rw [if_neg (by decide), h.2.1.2.2.2.1 q, wr_id (by omega), wr_id (by omega), wr_id (by omega), m177 (by omega) (by omega) (by omega)]
  refine ⟨by have := b2i_r (decide (lo ≤ nmv T t.2.1 t.2.2 ∧ nmv T t.2.1 t.2.2 ≤ hi)); omega, ?_⟩
  by_cases q1 : lo ≤ nmv T t.2.1 t.2.2 ∧ nmv T t.2.1 t.2.2 ≤ hi
  · have en : nEr T t lo hi = 0 := by unfold nEr; rw [if_neg (by omega), if_neg (by omega)]
    rw [decide_eq_true q1, if_neg (by decide), m f8]
    refine ⟨by decide, ?_⟩
    rw [if_neg (by decide)]
    refine m187n' h (fun M1 g1 h1 => ?_)
    refine ⟨_, rfl, hQ M1 _ g1 ?_⟩
    rw [if_pos en]
    exact ⟨rfl, h1⟩
  · have en : nEr T t lo hi = 4 := by unfold nEr; rw [if_neg (by omega), if_pos (by omega)]
    rw [decide_eq_false q1, if_pos (by decide)]
    refine m188 h (by decide) (fun M1 g1 h1 => ?_)
    rw [if_pos rfl, if_pos rfl, if_neg (by omega)] at h1
    have m' := fun {P : Int → Mem → Prop} => (m189 (Q := P) h1.sp.2.2.2.1 ⟨by decide, by decide⟩)
    rw [m']
    refine ⟨by decide, ?_⟩
    rw [if_pos (by decide)]
    refine ⟨_, rfl, hQ M1 _ g1 ?_⟩
    rw [en, if_neg (by decide)]
    exact h1
/-- the semicolon -/
def eEr (t : Tk) : Int := if t.1 = 3 then 0 else wrg t
theorem m191 {Q : Mem → Prop} (h : TmR M T t 0 fp) (hQ : ∀ M' : Mem, FrJ M M' → (if eEr t = 0 then TmR M' T (nx T t) 0 fp else TmR M' T t (eEr t) t.2.1) → Q M') : WV 191 [vR 204, vI 3] M Q := by
  obtain ⟨k4, f5, f4, f8, f9⟩ := h.sp
  refine t_191 o204 ?_
  rw [f8, f5]
  refine ⟨by decide, ?_⟩
  rw [if_pos (by decide)]
  refine ⟨by omega, by decide, ?_⟩
  by_cases q : t.1 = 3
  · have en : eEr t = 0 := by unfold eEr; rw [if_pos q]
    rw [if_pos q]
    refine m187n' h (fun M1 g1 h1 => hQ M1 g1 ?_)
    rw [if_pos en]
    exact h1
  · have en : eEr t = wrg t := by unfold eEr; rw [if_neg q]
    have wr := @wrg_r t
    rw [if_neg q]
    refine m188 h (by decide) (fun M1 g1 h1 => hQ M1 g1 ?_)
    have ew : (if (0 : Int) = 0 then (if t.1 = 4 then (1 : Int) else 2) else 0) = wrg t := by rw [if_pos rfl]; rfl
    rw [ew, if_pos rfl] at h1
    rw [en, if_neg (by omega)]
    exact h1
theorem m191f {Q : Mem → Prop} (h : M 204 8 = ft) (hf : 1 ≤ ft ∧ ft ≤ 5) (hQ : Q M) : WV 191 [vR 204, vI 3] M Q := by
  refine t_191 o204 ?_
  rw [h]
  refine ⟨by omega, ?_⟩
  rw [if_neg (by omega)]
  exact hQ
end MR
