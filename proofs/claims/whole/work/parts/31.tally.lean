/-! TALLY, part one: its mathematics, and how the class fills it. -/
abbrev Tb : Type := List (List Int × Int)
def tAdd : Tb → List Int → Tb
  | [], x => [(x, 1)]
  | (y, n) :: r, x => if y = x then (y, n + 1) :: r else (y, n) :: tAdd r x
def tg (T : Tb) (i : Nat) : List Int × Int := T.getD i ([], 0)
theorem tg_0 (e : List Int × Int) (T : Tb) : tg (e :: T) 0 = e := rfl
theorem tg_s (e : List Int × Int) (T : Tb) (i : Nat) : tg (e :: T) (i + 1) = tg T i := rfl
theorem tAdd_at : ∀ (T : Tb) (x : List Int) (i : Nat), i < T.length → (tg T i).1 = x → (∀ j, j < i → (tg T j).1 ≠ x) → (tAdd T x).length = T.length ∧ ∀ j, tg (tAdd T x) j = if j = i then (x, (tg T i).2 + 1) else tg T j
  | [], _, _, h, _, _ => absurd h (Nat.not_lt_zero _)
  | (y, n) :: r, x, 0, _, e, _ => by
    have e' : y = x := e
    unfold tAdd
    rw [if_pos e']
    refine ⟨rfl, fun j => ?_⟩
    cases j with
    | zero => rw [if_pos rfl, tg_0, tg_0, e']
    | succ j => rw [if_neg (by omega), tg_s, tg_s]
  | (y, n) :: r, x, i + 1, h, e, hn => by
    have ne : ¬ y = x := hn 0 (by omega)
    have ih := tAdd_at r x i (by simpa using h) e (fun j hj => hn (j + 1) (by omega))
    unfold tAdd
    rw [if_neg ne]
    refine ⟨by rw [List.length_cons, ih.1, List.length_cons], fun j => ?_⟩
    cases j with
    | zero => rw [if_neg (by omega), tg_0, tg_0]
    | succ j =>
      rw [tg_s, ih.2 j, tg_s, tg_s]
      by_cases q : j = i
      · rw [if_pos q, if_pos (by omega)]
      · rw [if_neg q, if_neg (by omega)]
theorem tAdd_no : ∀ (T : Tb) (x : List Int), (∀ j, j < T.length → (tg T j).1 ≠ x) → tAdd T x = T ++ [(x, 1)]
  | [], _, _ => rfl
  | (y, n) :: r, x, hn => by
    have ne : ¬ y = x := hn 0 (by simp)
    unfold tAdd
    rw [if_neg ne, tAdd_no r x (fun j hj => hn (j + 1) (by simpa using hj))]
    rfl
theorem tAdd_all {P : List Int → Prop} : ∀ (T : Tb) (x : List Int), (∀ e ∈ T, P e.1) → P x → ∀ e ∈ tAdd T x, P e.1
  | [], x, _, hx, e, he => by
    rw [List.mem_singleton.mp he]
    exact hx
  | (y, n) :: r, x, h, hx, e, he => by
    unfold tAdd at he
    by_cases q : y = x
    · rw [if_pos q] at he
      rcases List.mem_cons.mp he with z | z
      · rw [z]; exact h (y, n) List.mem_cons_self
      · exact h e (List.mem_cons_of_mem _ z)
    · rw [if_neg q] at he
      rcases List.mem_cons.mp he with z | z
      · rw [z]; exact h (y, n) List.mem_cons_self
      · exact tAdd_all r x (fun e he => h e (List.mem_cons_of_mem _ he)) hx e z
theorem tAdd_len : ∀ (T : Tb) (x : List Int), (tAdd T x).length ≤ T.length + 1
  | [], _ => Nat.le_refl _
  | (y, n) :: r, x => by
    have := tAdd_len r x
    unfold tAdd
    split
    · simp
    · simp only [List.length_cons]; omega
/-- how many in all -/
def tsum : Tb → Int
  | [] => 0
  | e :: r => e.2 + tsum r
theorem tAdd_sum : ∀ (T : Tb) (x : List Int), tsum (tAdd T x) = tsum T + 1
  | [], _ => rfl
  | (y, n) :: r, x => by
    have := tAdd_sum r x
    unfold tAdd
    split
    · show n + 1 + tsum r = n + tsum r + 1; omega
    · show n + tsum (tAdd r x) = n + tsum r + 1; omega
theorem tAdd_pos : ∀ (T : Tb) (x : List Int), (∀ e ∈ T, 1 ≤ e.2) → ∀ e ∈ tAdd T x, 1 ≤ e.2
  | [], x, _, e, he => by rw [List.mem_singleton.mp he]; exact Int.le_refl _
  | (y, n) :: r, x, h, e, he => by
    have h0 := h (y, n) List.mem_cons_self
    unfold tAdd at he
    by_cases q : y = x
    · rw [if_pos q] at he
      rcases List.mem_cons.mp he with z | z
      · rw [z]; show 1 ≤ n + 1; have : 1 ≤ n := h0; omega
      · exact h e (List.mem_cons_of_mem _ z)
    · rw [if_neg q] at he
      rcases List.mem_cons.mp he with z | z
      · rw [z]; exact h0
      · exact tAdd_pos r x (fun e he => h e (List.mem_cons_of_mem _ he)) e z
/-- the opening, the heart, the closing of a syllable -/
def part3 (X : Ct) (s k : Int) : List Int := if s = 0 then okl X k else if s = 1 then sub (Xl X) (hst X k) (hsz X k) else ckl X k
def tlK (X : Ct) (s : Int) : Nat → Int → Tb → Tb
  | 0, _, T => T
  | m + 1, k, T => tlK X s m (k + 1) (tAdd T (part3 X s k))
theorem tlK_s (X : Ct) (s : Int) (m : Nat) (k : Int) (T : Tb) : tlK X s (m + 1) k T = tlK X s m (k + 1) (tAdd T (part3 X s k)) := rfl
def XWi (L : Lw) (W : List (List Int)) (i : Nat) : Ct := XP L W (X0 L (W.getD i []))
def tlW (L : Lw) (W : List (List Int)) (s : Int) : Nat → Nat → Tb → Tb
  | 0, _, T => T
  | m + 1, i, T => tlW L W s m (i + 1) (tlK (XWi L W i) s (XWi L W i).2.1.length 0 T)
theorem tlW_s (L : Lw) (W : List (List Int)) (s : Int) (m i : Nat) (T : Tb) : tlW L W s (m + 1) i T = tlW L W s m (i + 1) (tlK (XWi L W i) s (XWi L W i).2.1.length 0 T) := rfl
def tal (L : Lw) (W : List (List Int)) (s : Int) : Tb := tlW L W s W.length 0 []
def bd3 (s : Int) : Int := if s = 1 then 2 else 11
/-- a table as it can be -/
def TOk (s : Int) (T : Tb) : Prop := ∀ e ∈ T, dg e.1 ∧ (e.1.length : Int) ≤ bd3 s
theorem bd3_12 (s : Int) : bd3 s ≤ 11 := by unfold bd3; split <;> omega
theorem tg_mem {T : Tb} {i : Nat} (h : i < T.length) : tg T i ∈ T := by
  unfold tg
  rw [List.getD_eq_getElem?_getD, List.getElem?_eq_getElem h]
  exact List.getElem_mem _
theorem part3_ok {X : Ct} {s k : Int} (hH : HOk X) (hG : GOk X) (hd : dg (Xl X)) (hx : Xc X = 0) (h0 : 0 ≤ k) (h1 : k < cnt X) : dg (part3 X s k) ∧ ((part3 X s k).length : Int) ≤ bd3 s := by
  have ho := okl_ok hH hG hd h0 h1
  have hc := ckl_ok hH hG hd h0 h1
  have hh := hen_r hH h0 h1
  have hb := beh_r hH h0 h1
  have hcl := cls_r hH hG h0 h1
  have hcz := csz_r hH hG h0 h1
  have f : hen X k = hst X k + hsz X k := rfl
  have e : osz X k = hst X k - ofr X k := rfl
  unfold part3 bd3
  by_cases s0 : s = 0
  · rw [if_pos s0, if_neg (by omega)]
    refine ⟨ho.1, ?_⟩
    rcases ofr_r hH hG h0 h1 with q | q
    · omega
    · omega
  rw [if_neg s0]
  by_cases s1 : s = 1
  · rw [if_pos s1, if_pos s1]
    have hl := sub_len (l := Xl X) (a := hst X k) (n := hsz X k) (by omega) (by omega) (by show _ ≤ Xn X; omega)
    exact ⟨sub_dg hd _ _, by omega⟩
  · rw [if_neg s1, if_neg s1]
    exact ⟨hc.1, by omega⟩
def PtrT (M : Mem) : Prop := M 53 0 = 9 ∧ M 53 1 = 54 ∧ M 53 2 = 58 ∧ M 53 3 = 62 ∧ ∀ s : Int, 0 ≤ s → s < 3 → M 54 s = 55 + s ∧ M 58 s = 59 + s
def TlC (M : Mem) (s : Int) (T : Tb) : Prop := M 62 s = T.length ∧ ∀ i : Nat, i < T.length → M (55 + s) i = keyOf (tg T i).1 ∧ M (59 + s) i = (tg T i).2
theorem sh53 : gO 8 53 ∧ (shA SH 54).1 = 25 ∧ (shA SH 54).2 = 3 ∧ (shA SH 58).1 = 26 ∧ (shA SH 58).2 = 3 ∧ shA SH 62 = (20, 3) ∧ shA SH 55 = (23, 240) ∧ shA SH 56 = (23, 240) ∧ shA SH 57 = (23, 240) ∧ shA SH 59 = (20, 240) ∧ shA SH 60 = (20, 240) ∧ shA SH 61 = (20, 240) := ⟨⟨by decide, by decide +kernel⟩, by decide +kernel, by decide +kernel, by decide +kernel, by decide +kernel, by decide +kernel, by decide +kernel, by decide +kernel, by decide +kernel, by decide +kernel, by decide +kernel, by decide +kernel⟩
theorem z55 {s : Int} (h0 : 0 ≤ s) (h1 : s < 3) : shA SH (55 + s) = (23, 240) ∧ shA SH (59 + s) = (20, 240) := by
  have : s = 0 ∨ s = 1 ∨ s = 2 := by omega
  obtain ⟨-, -, -, -, -, -, a, b, c, d, e, f⟩ := sh53
  rcases this with rfl | rfl | rfl
  · exact ⟨a, d⟩
  · exact ⟨b, e⟩
  · exact ⟨c, f⟩
section TC
variable {M : Mem} {p q s : Int} {L : Lw} {W S : List (List Int)} {X : Ct} {c : Int → Int} {T : Tb}
theorem s116 {Q : Mem → Prop} {x : List Int} (hp : PtrT M) (h0 : 0 ≤ s) (h1 : s < 3) (hT : TlC M s T) (hok : TOk s T) (hlen : T.length < 240) (hx : dg x) (hxl : x.length ≤ 12) (hQ : ∀ M' : Mem, (∀ k : Int, k ≠ 55 + s → k ≠ 59 + s → k ≠ 62 → M' k = M k) → (∀ j : Int, j ≠ s → M' 62 j = M 62 j) → TlC M' s (tAdd T x) → Q M') : WV 116 [vR 53, vI s, vL (keyOf x)] M Q := by
  obtain ⟨-, p1, p2, p3, p5⟩ := hp
  obtain ⟨q1, q2⟩ := p5 s h0 h1
  obtain ⟨z1, z2⟩ := z55 h0 h1
  obtain ⟨o8, a1, a2, b1, b2, c1, -⟩ := sh53
  have g62 : gA 20 62 s := ⟨by rw [c1], h0, by rw [c1]; exact h1⟩
  have g54 : gA 24 54 s ∨ gA 25 54 s ∨ gA 26 54 s := Or.inr (Or.inl ⟨a1, h0, by rw [a2]; exact h1⟩)
  have g58 : gA 24 58 s ∨ gA 25 58 s ∨ gA 26 58 s := Or.inr (Or.inr ⟨b1, h0, by rw [b2]; exact h1⟩)
  have g55 : ∀ {i : Int}, 0 ≤ i → i < 240 → gA 23 (55 + s) i := fun {i} a b => ⟨by rw [z1], a, by rw [z1]; exact b⟩
  have g59 : ∀ {i : Int}, 0 ≤ i → i < 240 → gA 20 (59 + s) i := fun {i} a b => ⟨by rw [z2], a, by rw [z2]; exact b⟩
  have n1 : (53 : Int) ≠ 55 + s := by omega
  have n2 : (58 : Int) ≠ 55 + s := by omega
  have n3 : (62 : Int) ≠ 55 + s := by omega
  have n4 : (53 : Int) ≠ 59 + s := by omega
  have n5 : (58 : Int) ≠ 59 + s := by omega
  have n6 : (62 : Int) ≠ 59 + s := by omega
  have n7 : (53 : Int) ≠ 62 := by omega
  have n8 : (58 : Int) ≠ 62 := by omega
  have n9 : 59 + s ≠ (62 : Int) := by omega
  have n10 : 55 + s ≠ (59 : Int) + s := by omega
  have n11 : 55 + s ≠ (62 : Int) := by omega
  have kx := key_pos hx
  have kx2 := key_lt hx (by omega)
  have key : ∀ (n i : Nat), i + n = T.length → (∀ j, j < i → (tg T j).1 ≠ x) → WR 116 3 [some (vR 53), some (vI s), some (vL (keyOf x)), none, some (vI i)] [] M (fun _ M' => Q M') := by
    intro n
    induction n with
    | zero =>
      intro i hi hn
      have ei : i = T.length := by omega
      have et := tAdd_no T x (by rw [← ei]; exact hn)
      refine t_116_3 o8 ?_
      simp only [p1, p2, p3, q1, q2, hT.1, upM_o n1, upM_o n2, upM_o n3, upM_o n4, upM_o n5, upM_o n6, upM_o n7, upM_o n8, upM_o n9, upM_s]
      refine ⟨g62, by omega, by omega, ?_⟩
      rw [if_pos (by omega), if_pos (by omega)]
      refine ⟨g62, ?_⟩
      rw [if_pos (by omega)]
      refine ⟨g54, g55 (by omega) (by omega), g58, g59 (by omega) (by omega), g62, g62, g58, g59 (by omega) (by omega), g59 (by omega) (by omega), ?_⟩
      refine hQ _ (fun k a b d => by rw [upM_o b, upM_o d, upM_o b, upM_o a]) (fun j a => by rw [upM_o n6, upM_f a, upM_o n6, upM_o n3]) ⟨?_, fun j hj => ?_⟩
      · rw [upM_o n6, upM_s, et, List.length_append]
        rfl
      · rw [et] at hj ⊢
        rw [List.length_append, List.length_singleton] at hj
        have en : ∀ t : Nat, t < T.length → tg (T ++ [(x, 1)]) t = tg T t := fun t ht => by
          unfold tg
          rw [List.getD_eq_getElem?_getD, List.getD_eq_getElem?_getD, List.getElem?_append_left ht]
        rw [upM_o n10, upM_o n11, upM_o n10]
        by_cases e : j = i
        · have el : tg (T ++ [(x, 1)]) j = (x, 1) := by
            unfold tg
            rw [e, ei, List.getD_eq_getElem?_getD, List.getElem?_append_right (Nat.le_refl _), Nat.sub_self]
            rfl
          rw [el, e, upM_s, upM_s]
          exact ⟨rfl, rfl⟩
        · rw [en j (by omega), upM_f (by omega), upM_f (by omega), upM_o n9, upM_f (by omega), upM_o (show 59 + s ≠ (55 : Int) + s by omega)]
          exact hT.2 j (by omega)
    | succ n ih =>
      intro i hi hn
      obtain ⟨k1, k2⟩ := hT.2 i (by omega)
      obtain ⟨d1, d2⟩ := hok _ (tg_mem (T := T) (i := i) (by omega))
      have b12 := bd3_12 s
      have ky := key_pos d1
      have ky2 := key_lt d1 (by omega)
      refine t_116_3 o8 ?_
      simp only [p1, p2, p3, q1, q2, hT.1, upM_o n1, upM_o n2, upM_o n3, upM_o n4, upM_o n5, upM_o n6, upM_o n7, upM_o n8, upM_o n9, upM_s]
      refine ⟨g62, by omega, by omega, ?_⟩
      rw [if_neg (by omega), k1]
      refine ⟨g54, g55 (by omega) (by omega), ⟨by omega, by omega⟩, cmp3_r _ _, ?_⟩
      by_cases e : (tg T i).1 = x
      · rw [if_pos ((cmp3 _ _).mpr (by rw [e])), if_pos (by omega)]
        refine ⟨g62, ?_⟩
        rw [if_neg (by omega)]
        have et := tAdd_at T x i (by omega) e hn
        refine ⟨g58, g59 (by omega) (by omega), g59 (by omega) (by omega), ?_⟩
        refine hQ _ (fun k a b d => upM_o b) (fun j a => by rw [upM_o n6]) ⟨?_, fun j hj => ?_⟩
        · rw [upM_o n6, et.1]
          exact hT.1
        · rw [et.1] at hj
          rw [et.2 j, upM_o n10]
          by_cases q : j = i
          · rw [if_pos q, q, upM_s, k1, k2, e]
            exact ⟨rfl, rfl⟩
          · rw [if_neg q, upM_f (by omega)]
            exact hT.2 j hj
      · rw [if_neg (fun z => e ((key_eq d1 hx).mp ((cmp3 _ _).mp z)))]
        exact ih (i + 1) (by omega) (fun j hj => by
          by_cases q : j = i
          · rw [q]; exact e
          · exact hn j (by omega))
  exact t_116 o8 (key T.length 0 (by omega) (fun j hj => by omega))
theorem no53 {k : Int} (h0 : 53 ≤ k) (h1 : k ≤ 62) : shA SH k ≠ (5, 3) ∧ shA SH k ≠ (20, 12) := by
  have : k = 53 ∨ k = 54 ∨ k = 55 ∨ k = 56 ∨ k = 57 ∨ k = 58 ∨ k = 59 ∨ k = 60 ∨ k = 61 ∨ k = 62 := by omega
  rcases this with rfl | rfl | rfl | rfl | rfl | rfl | rfl | rfl | rfl | rfl <;> decide +kernel
theorem CutIs.out {M' : Mem} (h : CutIs M p L W X) (g : ∀ k : Int, k < 53 ∨ 62 < k → M' k = M k) (f : Fr M M') : CutIs M' p L W X := by
  have hrow : ∀ {r : Int} {l : List Int}, RowIs M r l → RowIs M' r l := fun {r l} hr => by
    have hc := hr.1
    refine hr.fr (g _ ?_) (g _ ?_)
    · rcases Int.lt_or_le r 53 with z | z
      · exact Or.inl z
      · rcases Int.lt_or_le 62 r with y | y
        · exact Or.inr y
        · exact absurd hc.2.1 (no53 z y).1
    · rcases Int.lt_or_le (r + 1) 53 with z | z
      · exact Or.inl z
      · rcases Int.lt_or_le 62 (r + 1) with y | y
        · exact Or.inr y
        · exact absurd hc.2.2 (no53 z y).2
  obtain ⟨⟨h1, h2, h3, h4, h5, h6, h7⟩, h8, h9⟩ := h
  have e9 : M' 9 = M 9 := g 9 (by decide)
  refine ⟨⟨h1.fr f, h2.fr (lw8 h1.1) f, by rw [e9]; exact hrow h3, by rw [e9]; exact h4, h5, by rw [g 10 (by decide), g 11 (by decide)]; exact h6, fun z => by rw [e9]; exact hrow (h7 z)⟩, by rw [g 12 (by decide)]; exact h8, h9⟩
/-- the three tables, and how many syllables -/
def TlA (M : Mem) (t : Int → Tb) : Prop := ∀ s : Int, 0 ≤ s → s < 3 → TlC M s (t s) ∧ TOk s (t s)
theorem s115 {Q : Mem → Prop} {t : Int → Tb} {N : Int} (h : CutIs M p L W X) (hx : Xc X = 0) (hp : PtrT M) (hT : TlA M t) (hN : M 53 4 = N) (hlen : ∀ s : Int, 0 ≤ s → s < 3 → (t s).length + cnt X ≤ 240) (hQ : ∀ M' : Mem, (∀ k : Int, k < 53 ∨ 62 < k ∨ k = 54 ∨ k = 58 → M' k = M k) → (∀ j : Int, j ≠ 4 → M' 53 j = M 53 j) → TlA M' (fun s => tlK X s X.2.1.length 0 (t s)) → M' 53 4 = N + cnt X → Q M') : WV 115 [vR 53] M Q := by
  have o8 := sh53.1
  have hH := h.1.2.2.2.2.1
  have hd := h.1.2.2.1.2.2.2.2.1
  have h12 := hH.1
  have key : ∀ (n : Nat) (k : Int) (t : Int → Tb) (M1 : Mem) (N : Int), 0 ≤ k → k + n = cnt X → CutIs M1 p L W X → PtrT M1 → TlA M1 t → M1 53 4 = N → (∀ s : Int, 0 ≤ s → s < 3 → (t s).length + (n : Int) ≤ 240) → (∀ M' : Mem, (∀ k : Int, k < 53 ∨ 62 < k ∨ k = 54 ∨ k = 58 → M' k = M1 k) → (∀ j : Int, j ≠ 4 → M' 53 j = M1 53 j) → TlA M' (fun s => tlK X s n k (t s)) → M' 53 4 = N + n → Q M') → WR 115 2 [some (vR 53), some (vI k)] [] M1 (fun _ M' => Q M') := by
    intro n
    induction n with
    | zero =>
      intro k t M1 N k0 kn hC hp hT hN hl hQ
      refine t_115_2 o8 ?_
      rw [hp.1, hC.1.2.2.2.1.2.2.2.2.2.1]
      refine ⟨sh_cut.1, by omega, by omega, ?_⟩
      rw [if_pos (by omega)]
      exact hQ M1 (fun _ _ => rfl) (fun _ _ => rfl) hT (by rw [hN]; show N = N + 0; omega)
    | succ n ih =>
      intro k t M1 N k0 kn hC hp hT hN hl hQ
      have c9 : cnt X = M1 9 9 := hC.1.2.2.2.1.2.2.2.2.2.1.symm
      have pk := fun s => part3_ok (s := s) hH hC.2.2 hd hx k0 (show k < cnt X by omega)
      -- from a table's call to the next state
      have stp : ∀ (M2 : Mem) (t2 : Int → Tb) (s : Int) (P : Mem → Prop), 0 ≤ s → s < 3 → CutIs M2 p L W X → PtrT M2 → TlA M2 t2 → ((t2 s).length : Int) < 240 → (∀ M3 : Mem, CutIs M3 p L W X → PtrT M3 → TlA M3 (fun u => if u = s then tAdd (t2 s) (part3 X s k) else t2 u) → (∀ k : Int, k < 53 ∨ 62 < k ∨ k = 54 ∨ k = 58 → M3 k = M2 k) → M3 53 = M2 53 → P M3) → WV 116 [vR 53, vI s, vL (keyOf (part3 X s k))] M2 P := by
        intro M2 t2 s P s0 s3 hC2 hp2 hT2 hl2 hP
        have b12 := bd3_12 s
        refine s116 hp2 s0 s3 (hT2 s s0 s3).1 (hT2 s s0 s3).2 (by omega) (pk s).1 (by have := (pk s).2; omega) (fun M3 g3 g62 hT3 => ?_)
        have gg : ∀ k : Int, k < 53 ∨ 62 < k ∨ k = 54 ∨ k = 58 → M3 k = M2 k := fun k z => g3 k (by omega) (by omega) (by omega)
        have e53 : M3 53 = M2 53 := g3 53 (by omega) (by omega) (by omega)
        have ff : Fr M2 M3 := ⟨fun k hk => g3 k (by unfold Scr at hk; omega) (by unfold Scr at hk; omega) (by unfold Scr at hk; omega), fun j _ _ => ⟨by rw [gg 4 (by decide)], by rw [gg 9 (by decide)], by rw [e53]⟩, by rw [gg 64 (by decide)], by rw [gg 5 (by decide)]⟩
        refine hP M3 (hC2.out (fun k z => gg k (by omega)) ff) (by unfold PtrT at hp2 ⊢; rw [e53, gg 54 (by decide), gg 58 (by decide)]; exact hp2) (fun u u0 u3 => ?_) gg e53
        try dsimp only
        by_cases q : u = s
        · rw [if_pos q, q]
          exact ⟨hT3, fun e he => tAdd_all (P := fun x => dg x ∧ (x.length : Int) ≤ bd3 s) _ _ (hT2 s s0 s3).2 (pk s) e he⟩
        · rw [if_neg q]
          have := hT2 u u0 u3
          refine ⟨⟨by rw [g62 u q]; exact this.1.1, fun i hi => ?_⟩, this.2⟩
          rw [g3 (55 + u) (by omega) (by omega) (by omega), g3 (59 + u) (by omega) (by omega) (by omega)]
          exact this.1.2 i hi
      refine t_115_2 o8 ?_
      rw [hp.1, ← c9]
      refine ⟨sh_cut.1, by omega, by omega, ?_⟩
      rw [if_neg (by omega), s28 hC k0 (by omega)]
      refine ⟨sh9, ?_⟩
      have l0 := hl 0 (by decide) (by decide)
      have l1 := hl 1 (by decide) (by decide)
      have l2 := hl 2 (by decide) (by decide)
      refine stp M1 t 0 _ (by decide) (by decide) hC hp hT (by omega) (fun M2 hC2 hp2 hT2 g2 e2 => ?_)
      rw [hp2.1, s29 hC2.1 k0 (by omega)]
      refine ⟨sh9, ?_⟩
      refine stp M2 _ 1 _ (by decide) (by decide) hC2 hp2 hT2 (by rw [if_neg (by decide)]; omega) (fun M3 hC3 hp3 hT3 g3 e3 => ?_)
      rw [hp3.1, s30 hC3 k0 (by omega)]
      refine ⟨sh9, ?_⟩
      refine stp M3 _ 2 _ (by decide) (by decide) hC3 hp3 hT3 (by rw [if_neg (by decide), if_neg (by decide)]; omega) (fun M4 hC4 hp4 hT4 g4 e4 => ?_)
      have e4N : M4 53 4 = N := by rw [e4, e3, e2]; exact hN
      rw [e4N]
      have gM : ∀ k : Int, k < 53 ∨ 62 < k ∨ k = 54 ∨ k = 58 → upM M4 53 4 (N + 1) k = M1 k := fun k z => by rw [upM_o (by omega), g4 k z, g3 k z, g2 k z]
      have f53 : ∀ j : Int, j ≠ 4 → upM M4 53 4 (N + 1) 53 j = M1 53 j := fun j z => by rw [upM_f z, e4, e3, e2]
      have ff : Fr M4 (upM M4 53 4 (N + 1)) := ⟨fun k hk => upM_o (by unfold Scr at hk; omega), fun j a b => ⟨by rw [upM_o (by decide)], by rw [upM_o (by decide)], by rw [upM_f (by omega)]⟩, by rw [upM_o (by decide)], by rw [upM_o (by decide)]⟩
      refine ih (k + 1) (fun s => tAdd (t s) (part3 X s k)) _ (N + 1) (by omega) (by omega) (hC4.out (fun k z => upM_o (by omega)) ff) ?_ ?_ upM_s (fun s s0 s3 => ?_) (fun M' g f hTA hNN => ?_)
      · unfold PtrT at hp4 ⊢
        rw [upM_f (by decide), upM_f (by decide), upM_f (by decide), upM_f (by decide), upM_o (by decide), upM_o (by decide)]
        exact hp4
      · intro s s0 s3
        have := hT4 s s0 s3
        have e : (if s = 2 then tAdd (if (2 : Int) = 1 then tAdd (if (1 : Int) = 0 then tAdd (t 0) (part3 X 0 k) else t 1) (part3 X 1 k) else if (2 : Int) = 0 then tAdd (t 0) (part3 X 0 k) else t 2) (part3 X 2 k) else if s = 1 then tAdd (if (1 : Int) = 0 then tAdd (t 0) (part3 X 0 k) else t 1) (part3 X 1 k) else if s = 0 then tAdd (t 0) (part3 X 0 k) else t s) = tAdd (t s) (part3 X s k) := by
          have : s = 0 ∨ s = 1 ∨ s = 2 := by omega
          rcases this with rfl | rfl | rfl <;> rfl
        dsimp only at this ⊢
        rw [e] at this
        refine ⟨⟨by rw [upM_o (by decide)]; exact this.1.1, fun i hi => ?_⟩, this.2⟩
        rw [upM_o (by omega), upM_o (by omega)]
        exact this.1.2 i hi
      · have := tAdd_len (t s) (part3 X s k)
        have := hl s s0 s3
        try dsimp only
        omega
      · exact hQ M' (fun k z => (g k z).trans (gM k z)) (fun j z => (f j z).trans (f53 j z)) hTA (by rw [hNN]; show N + 1 + (n : Int) = N + ((n + 1 : Nat) : Int); omega)
  have hcl : cnt X = X.2.1.length := rfl
  exact t_115 o8 (key X.2.1.length 0 t M N (by omega) (by omega) h hp hT hN (fun s a b => by have := hlen s a b; omega) (fun M' g f hTA hNN => hQ M' g f hTA hNN))
def nSyl (L : Lw) (W : List (List Int)) : Nat → Nat → Int
  | 0, _ => 0
  | m + 1, i => cnt (XWi L W i) + nSyl L W m (i + 1)
def allSyl (L : Lw) (W : List (List Int)) : Int := nSyl L W W.length 0
theorem PtrT.fr {M' : Mem} (h : PtrT M) (g : Fr M M') : PtrT M' := by
  unfold PtrT at h ⊢
  rw [(g.2.1 0 (by decide) (by decide)).2.2, (g.2.1 1 (by decide) (by decide)).2.2, (g.2.1 2 (by decide) (by decide)).2.2, (g.2.1 3 (by decide) (by decide)).2.2, g.1 54 (by unfold Scr; omega), g.1 58 (by unfold Scr; omega)]
  exact h
theorem s114 {Q : Mem → Prop} (h : ClsQ M p q L W S c) (hp : PtrT M) (hQ : ∀ M' : Mem, Fr M M' → TlA M' (tal L W) → M' 53 4 = allSyl L W → Q M') : WV 114 [vR 53, vR p] M Q := by
  have o8 := sh53.1
  have hpL := h.1.1.1
  have h20 := h.1.2.1.2.2.2.1
  have z62 : shA SH 62 = (20, 3) := sh53.2.2.2.2.2.1
  have lp : ∀ (n i : Nat) (t : Int → Tb) (N : Int) (l3 : Option AV) (M1 : Mem), i + n = W.length → Fr M M1 → TlA M1 t → M1 53 4 = N → (∀ s : Int, 0 ≤ s → s < 3 → (t s).length ≤ 12 * i) → (∀ M' : Mem, Fr M M' → TlA M' (fun s => tlW L W s n i (t s)) → M' 53 4 = N + nSyl L W n i → Q M') → WR 114 27 [some (vR 53), some (vR p), some (vI i), l3] [] M1 (fun _ M' => Q M') := by
    intro n
    induction n with
    | zero =>
      intro i t N l3 M1 hi g hT hN hl hQ
      have hM := h.fr g
      have h1 : M1 p 1 = p + 8 := hM.1.1.2.1.2.1
      refine t_114_27 o8 ?_
      rw [h1, hM.1.2.1.2.2.1]
      refine ⟨hM.1.1.o.1, ⟨hM.1.2.1.1.1, by rw [hM.1.2.1.1.2.1]⟩, by omega, by omega, ?_⟩
      rw [if_pos (by omega)]
      exact hQ M1 g hT (by rw [hN]; show N = N + 0; omega)
    | succ n ih =>
      intro i t N l3 M1 hi g hT hN hl hQ
      have hM := h.fr g
      have hpM := hp.fr g
      have h1 : M1 p 1 = p + 8 := hM.1.1.2.1.2.1
      obtain ⟨ra, -, -⟩ := wrd_at (lw8 hM.1.1.1) hM.1.2.1 (i := (i : Int)) (by omega) (by omega)
      rw [Int.toNat_natCast] at ra
      have ra0 := ra.1.1
      refine t_114_27 o8 ?_
      rw [h1, hM.1.2.1.2.2.1, s136 hM.1.2.1 (by omega), if_pos (show 0 ≤ (i : Int) ∧ (i : Int) < W.length by omega)]
      refine ⟨hM.1.1.o.1, ⟨hM.1.2.1.1.1, by rw [hM.1.2.1.1.2.1]⟩, by omega, by omega, ?_⟩
      rw [if_neg (by omega)]
      refine ⟨hM.1.1.o.1, by rw [hM.1.2.1.1.2.1], by omega, ?_⟩
      rw [if_neg (by omega), hpM.1]
      refine ⟨sh9, s11 hM.1 ra (fun M2 g2 hX _ => ?_)⟩
      have hp2 := hpM.fr g2.fr
      rw [hp2.1]
      refine ⟨sh9, s17 hX (fun M3 g3 hP => ?_)⟩
      have g23 := g2.tr (FrC.o12 g3)
      have hp3 := hpM.fr g23.fr
      have c12 : cnt (XWi L W i) ≤ 12 := hP.1.2.2.2.2.1.1
      have o53 : ∀ k : Int, 53 ≤ k → M3 k = M1 k := fun k z => g23.1 k (by omega)
      have hT3 : TlA M3 t := fun s a b => by
        have := hT s a b
        refine ⟨⟨by rw [o53 62 (by decide)]; exact this.1.1, fun j hj => ?_⟩, this.2⟩
        rw [o53 (55 + s) (by omega), o53 (59 + s) (by omega)]
        exact this.1.2 j hj
      refine s115 (X := XWi L W i) (N := N) hP rfl hp3 hT3 (by rw [o53 53 (by decide)]; exact hN) (fun s a b => by have := hl s a b; omega) (fun M4 g4 f4 hT4 hN4 => ?_)
      have ff : Fr M3 M4 := ⟨fun k hk => g4 k (by unfold Scr at hk; omega), fun j a b => ⟨by rw [g4 4 (by decide)], by rw [g4 9 (by decide)], f4 j (by omega)⟩, by rw [g4 64 (by decide)], by rw [g4 5 (by decide)]⟩
      refine ih (i + 1) _ _ _ M4 (by omega) ((g.tr g23.fr).tr ff) hT4 hN4 (fun s a b => ?_) (fun M' g' hT' hN' => hQ M' g' hT' (by rw [hN']; show N + cnt (XWi L W i) + nSyl L W n (i + 1) = N + (cnt (XWi L W i) + nSyl L W n (i + 1)); omega))
      have hlk : ∀ (m : Nat) (k : Int) (T : Tb), (tlK (XWi L W i) s m k T).length ≤ T.length + m := by
        intro m
        induction m with
        | zero => intro k T; exact Nat.le_refl _
        | succ m ihm =>
          intro k T
          have a := ihm (k + 1) (tAdd T (part3 (XWi L W i) s k))
          have b := tAdd_len T (part3 (XWi L W i) s k)
          rw [tlK_s]
          omega
      have a1 := hlk (XWi L W i).2.1.length 0 (t s)
      have a2 := hl s a b
      have a3 : cnt (XWi L W i) = (XWi L W i).2.1.length := rfl
      try dsimp only
      omega
  have st : ∀ (n i : Nat) (M1 : Mem), i + n = 3 → Fr M M1 → (∀ j : Nat, j < i → M1 62 j = 0) → WR 114 2 [some (vR 53), some (vR p), some (vI i), none] [] M1 (fun _ M' => Q M') := by
    intro n
    induction n with
    | zero =>
      intro i M1 hi g hz
      refine t_114_2 o8 ⟨by omega, ?_⟩
      rw [if_pos (by omega)]
      have ff : Fr M1 (upM M1 53 4 0) := ⟨fun k hk => upM_o (by unfold Scr at hk; omega), fun j a b => ⟨by rw [upM_o (by decide)], by rw [upM_o (by decide)], by rw [upM_f (by omega)]⟩, by rw [upM_o (by decide)], by rw [upM_o (by decide)]⟩
      refine lp W.length 0 (fun _ => []) 0 none _ (by omega) (g.tr ff) (fun s a b => ⟨⟨?_, fun j hj => absurd hj (Nat.not_lt_zero _)⟩, fun e he => by cases he⟩) upM_s (fun s a b => Nat.zero_le _) (fun M' g' hT hN => hQ M' g' hT (by rw [hN]; unfold allSyl; omega))
      rw [upM_o (by decide)]
      have := hz s.toNat (by omega)
      rw [show ((s.toNat : Nat) : Int) = s by omega] at this
      exact this
    | succ n ih =>
      intro i M1 hi g hz
      have hp1 := hp.fr g
      refine t_114_2 o8 ⟨by omega, ?_⟩
      rw [if_neg (by omega), hp1.2.2.2.1]
      have ff : Fr M1 (upM M1 62 i 0) := ⟨fun k hk => upM_o (by unfold Scr at hk; omega), fun j a b => ⟨by rw [upM_o (by decide)], by rw [upM_o (by decide)], by rw [upM_o (by decide)]⟩, by rw [upM_o (by decide)], by rw [upM_o (by decide)]⟩
      refine ⟨⟨by rw [z62], by omega, by rw [z62]; show _ < ((3 : Nat) : Int); omega⟩, ih (i + 1) _ (by omega) (g.tr ff) (fun j hj => ?_)⟩
      by_cases e : j = i
      · rw [e, upM_s]
      · rw [upM_f (by omega)]
        exact hz j (by omega)
  exact t_114 o8 (st 3 0 M (by omega) Fr.rf (fun j hj => by omega))
end TC
