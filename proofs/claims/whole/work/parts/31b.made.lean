/-! TALLY and MADE, by the class. -/
def pick : Tb → Int → List Int
  | [], _ => []
  | e :: r, w => if w < e.2 then e.1 else pick r (w - e.2)
theorem pick_c (e : List Int × Int) (r : Tb) (w : Int) : pick (e :: r) w = if w < e.2 then e.1 else pick r (w - e.2) := rfl
def aTally (L : Lw) (W : List (List Int)) (s i what : Int) : Int := if 0 ≤ s ∧ s < 3 then (if i = -1 then (tal L W s).length else if i < 0 then -1 else if ((tal L W s).length : Int) ≤ i then -1 else if what < 0 then -1 else if what = 0 then (tg (tal L W s) i.toNat).2 else if what = 1 then (tg (tal L W s) i.toNat).1.length else gi (tg (tal L W s) i.toNat).1 (what - 2)) else -1
/-- what is made: so many draws more, from the t-th on -/
def mk3 (L : Lw) (W : List (List Int)) : Nat → Nat → Int → List Int
  | 0, _, _ => []
  | m + 1, t, d => pick (tal L W ((t : Int).tmod 3)) (((d * 1103515245 + 12345) % 4294967296 / 65536).tmod (allSyl L W)) ++ mk3 L W m (t + 1) (d * 1103515245 + 12345)
theorem mk3_s (L : Lw) (W : List (List Int)) (m t : Nat) (d : Int) : mk3 L W (m + 1) t d = pick (tal L W ((t : Int).tmod 3)) (((d * 1103515245 + 12345) % 4294967296 / 65536).tmod (allSyl L W)) ++ mk3 L W m (t + 1) (d * 1103515245 + 12345) := rfl
def aMade (L : Lw) (W : List (List Int)) (seed n i : Int) : Int := if 1 ≤ n ∧ n ≤ 4 then (if i < -1 then -1 else if allSyl L W ≤ 0 then -1 else if i = -1 then (mk3 L W (3 * n.toNat) 0 seed).length else gi (mk3 L W (3 * n.toNat) 0 seed) i) else -1
theorem pick_ok {s : Int} : ∀ (T : Tb) (w : Int), TOk s T → dg (pick T w) ∧ ((pick T w).length : Int) ≤ bd3 s
  | [], w, _ => ⟨fun s hs => (by cases hs), by show (0 : Int) ≤ bd3 s; unfold bd3; split <;> decide⟩
  | e :: r, w, h => by
    rw [pick_c]
    split
    · exact h e List.mem_cons_self
    · exact pick_ok r _ fun e he => h e (List.mem_cons_of_mem _ he)
theorem key_pre : ∀ (d : Nat) (l : List Int), dg l → d < l.length → keyOf l / (16 : Int) ^ d % 16 = gi l ((l.length : Int) - 1 - d)
  | 0, l, h, hl => by
    rcases snoc_cases l with rfl | ⟨m, s, rfl⟩
    · exact absurd hl (Nat.lt_irrefl _)
    · rw [Int.pow_zero, Int.ediv_one, (key_div h).2, gi_app (by simp), if_neg (by simp)]
      rw [List.length_append, List.length_singleton, show ((m.length + 1 : Nat) : Int) - 1 - ((0 : Nat) : Int) - m.length = 0 by omega]
      rfl
  | d + 1, l, h, hl => by
    rcases snoc_cases l with rfl | ⟨m, s, rfl⟩
    · exact absurd hl (Nat.not_lt_zero _)
    · rw [List.length_append, List.length_singleton] at hl ⊢
      have ih := key_pre d m (dg_snoc h).1 (by omega)
      rw [Int.pow_succ, Int.mul_comm, ← Int.ediv_ediv_of_nonneg (by decide), (key_div h).1, ih, gi_app (by omega), if_pos (by omega), show ((m.length + 1 : Nat) : Int) - 1 - ((d + 1 : Nat) : Int) = (m.length : Int) - 1 - d by omega]
section MA
variable {M : Mem} {p q s i what : Int} {L : Lw} {W S : List (List Int)} {c : Int → Int} {T : Tb}
theorem s86 {Q : Int → Mem → Prop} {l : List Int} (hd : dg l) (hl : l.length ≤ 12) (hi : inR i) : WI 86 [vL (keyOf l), vI i] M Q = Q (gi l i) M := by
  have k1 := key_pos hd
  have k2 := key_lt hd (by omega)
  refine FN.wi (WC.fn (t_86 ?_))
  rw [s85 hd (by omega)]
  refine ⟨hi, ?_⟩
  by_cases q1 : i < 0
  · rw [if_pos q1, gi_out (Or.inl q1)]
    exact ⟨rfl, rfl⟩
  rw [if_neg q1]
  refine ⟨by omega, ?_⟩
  by_cases q2 : (l.length : Int) ≤ i
  · rw [if_pos q2, gi_out (Or.inr q2)]
    exact ⟨rfl, rfl⟩
  rw [if_neg q2, and32_15, key_m (by omega) (by omega)]
  refine ⟨by omega, ?_⟩
  have e : (2 : Int) ^ (4 * ((l.length : Int) - 1 - i)).toNat = (16 : Int) ^ ((l.length : Int) - 1 - i).toNat := by
    rw [show (4 * ((l.length : Int) - 1 - i)).toNat = 4 * ((l.length : Int) - 1 - i).toNat by omega, Int.pow_mul]
    rfl
  rw [e, key_pre _ l hd (by omega), show (l.length : Int) - 1 - ((((l.length : Int) - 1 - i).toNat : Nat) : Int) = i by omega]
  exact ⟨rfl, rfl⟩
theorem tal_b (hw : Wf L) (hon : ∀ i : Nat, i < W.length → dg (W.getD i []) ∧ (W.getD i []).length ≤ 12) (hW : W.length ≤ 20) : (∀ s : Int, (tal L W s).length ≤ 240) ∧ (∀ s : Int, tsum (tal L W s) = allSyl L W) ∧ (∀ s : Int, ∀ e ∈ tal L W s, 1 ≤ e.2) ∧ 0 ≤ allSyl L W ∧ allSyl L W ≤ 240 := by
  have c12 : ∀ i : Nat, i < W.length → cnt (XWi L W i) ≤ 12 := fun i hi => (X0_h L _ (hon i hi).2).1
  have cl : ∀ i : Nat, cnt (XWi L W i) = (XWi L W i).2.1.length := fun i => rfl
  have k1 : ∀ (X : Ct) (s : Int) (m : Nat) (k : Int) (T : Tb), (tlK X s m k T).length ≤ T.length + m ∧ tsum (tlK X s m k T) = tsum T + m ∧ ((∀ e ∈ T, 1 ≤ e.2) → ∀ e ∈ tlK X s m k T, 1 ≤ e.2) := by
    intro X s m
    induction m with
    | zero => intro k T; exact ⟨Nat.le_refl _, by show tsum T = tsum T + 0; omega, fun h => h⟩
    | succ m ih =>
      intro k T
      have a := ih (k + 1) (tAdd T (part3 X s k))
      have b := tAdd_len T (part3 X s k)
      have d := tAdd_sum T (part3 X s k)
      rw [tlK_s]
      exact ⟨by omega, by rw [a.2.1, d]; omega, fun h => a.2.2 (tAdd_pos T _ h)⟩
  have k2 : ∀ (s : Int) (n i : Nat) (T : Tb), i + n = W.length → (tlW L W s n i T).length ≤ T.length + 12 * n ∧ tsum (tlW L W s n i T) = tsum T + nSyl L W n i ∧ ((∀ e ∈ T, 1 ≤ e.2) → ∀ e ∈ tlW L W s n i T, 1 ≤ e.2) := by
    intro s n
    induction n with
    | zero => intro i T _; exact ⟨Nat.le_refl _, by show tsum T = tsum T + 0; omega, fun h => h⟩
    | succ n ih =>
      intro i T hi
      have a := k1 (XWi L W i) s (XWi L W i).2.1.length 0 T
      have b := ih (i + 1) (tlK (XWi L W i) s (XWi L W i).2.1.length 0 T) (by omega)
      have d := c12 i (by omega)
      have e := cl i
      rw [tlW_s]
      refine ⟨by omega, ?_, fun h => b.2.2 (a.2.2 h)⟩
      rw [b.2.1, a.2.1]
      show tsum T + ((XWi L W i).2.1.length : Int) + nSyl L W n (i + 1) = tsum T + (cnt (XWi L W i) + nSyl L W n (i + 1))
      rw [e]; omega
  have k3 : ∀ (n i : Nat), i + n = W.length → 0 ≤ nSyl L W n i ∧ nSyl L W n i ≤ 12 * n := by
    intro n
    induction n with
    | zero => intro i _; exact ⟨Int.le_refl _, Int.le_refl _⟩
    | succ n ih =>
      intro i hi
      have a := ih (i + 1) (by omega)
      have d := c12 i (by omega)
      have e := cl i
      have f : nSyl L W (n + 1) i = cnt (XWi L W i) + nSyl L W n (i + 1) := rfl
      rw [f]
      omega
  have k4 := k3 W.length 0 (by omega)
  refine ⟨fun s => ?_, fun s => ?_, fun s => (k2 s W.length 0 [] (by omega)).2.2 (fun e he => by cases he), ?_⟩
  · have := (k2 s W.length 0 [] (by omega)).1
    unfold tal
    rw [List.length_nil] at this
    omega
  · have := (k2 s W.length 0 [] (by omega)).2.1
    unfold tal allSyl
    rw [this]
    show 0 + nSyl L W W.length 0 = _
    omega
  · unfold allSyl; omega
theorem ClsQ.won (h : ClsQ M p q L W S c) : ∀ i : Nat, i < W.length → dg (W.getD i []) ∧ (W.getD i []).length ≤ 12 := fun i hi => wrd_dg h.1.2.1 hi
theorem tl_r {s : Int} {T : Tb} (hok : TOk s T) (hpos : ∀ e ∈ T, 1 ≤ e.2) (hs : tsum T ≤ 240) : ∀ i : Nat, i < T.length → 1 ≤ (tg T i).2 ∧ (tg T i).2 ≤ 240 := fun i hi => by
  refine ⟨hpos _ (tg_mem hi), ?_⟩
  have : ∀ (T : Tb) (i : Nat), i < T.length → (∀ e ∈ T, 1 ≤ e.2) → (tg T i).2 ≤ tsum T := by
    intro T
    induction T with
    | nil => intro i hi _; exact absurd hi (Nat.not_lt_zero _)
    | cons e r ih =>
      intro i hi hp
      have hr : ∀ (T : Tb), (∀ e ∈ T, 1 ≤ e.2) → 0 ≤ tsum T := by
        intro T
        induction T with
        | nil => intro _; exact Int.le_refl _
        | cons e r ih => intro h; have := h e List.mem_cons_self; have := ih (fun e he => h e (List.mem_cons_of_mem _ he)); show 0 ≤ e.2 + tsum r; omega
      have h0 := hp e List.mem_cons_self
      have h1 := hr r (fun e he => hp e (List.mem_cons_of_mem _ he))
      cases i with
      | zero => show e.2 ≤ e.2 + tsum r; omega
      | succ i =>
        have := ih i (by simpa using hi) (fun e he => hp e (List.mem_cons_of_mem _ he))
        show (tg r i).2 ≤ e.2 + tsum r
        omega
  have := this T i hi hpos
  omega
theorem tlg (h0 : 0 ≤ s) (h1 : s < 3) {i : Int} (a : 0 ≤ i) (b : i < 240) : (gA 24 54 s ∨ gA 25 54 s ∨ gA 26 54 s) ∧ (gA 24 58 s ∨ gA 25 58 s ∨ gA 26 58 s) ∧ gA 23 (55 + s) i ∧ gA 20 (59 + s) i ∧ gA 20 62 s := by
  obtain ⟨z1, z2⟩ := z55 h0 h1
  obtain ⟨o8, a1, a2, b1, b2, c1, -⟩ := sh53
  exact ⟨Or.inr (Or.inl ⟨a1, h0, by rw [a2]; exact h1⟩), Or.inr (Or.inr ⟨b1, h0, by rw [b2]; exact h1⟩), ⟨by rw [z1], a, by rw [z1]; exact b⟩, ⟨by rw [z2], a, by rw [z2]; exact b⟩, ⟨by rw [c1], h0, by rw [c1]; exact h1⟩⟩
theorem s117 {Q : Int → Mem → Prop} (hp : PtrT M) (h0 : 0 ≤ s) (h1 : s < 3) (hT : TlC M s T) : WI 117 [vR 53, vI s] M Q = Q T.length M := by
  refine FN.wi (WC.fn (t_117 sh53.1 ⟨by omega, ?_⟩))
  rw [if_neg (by omega), if_neg (by omega), hp.2.2.2.1, hT.1]
  exact ⟨(tlg h0 h1 (i := 0) (by decide) (by decide)).2.2.2.2, rfl, rfl⟩
theorem cTally {Q : Int → Mem → Prop} (h : ClsQ M p q L W S c) (hp : PtrT M) (hs : inR s) (hi : inR i) (hw : inR what) (hQ : ∀ M' : Mem, Fr M M' → Q (aTally L W s i what) M') : WI 168 [vR 1, vI s, vI i, vI what] M Q := by
  have tb := tal_b h.1.1.2.2.2.2.2 h.won h.1.2.1.2.2.2.1
  have p4 := h.2.2.2.2.2.2.2.2.1
  have p7 := h.2.2.2.2.2.2.2.2.2.2.2.1
  have sh53' : (shA SH 53).1 = 8 := sh53.1.2
  unfold aTally at hQ
  refine t_168 o1.1 ⟨hs, ?_⟩
  by_cases q1 : 0 ≤ s ∧ s < 3
  rotate_left
  · rw [if_neg q1] at hQ
    by_cases q2 : s < 0
    · rw [if_pos q2]; exact ⟨_, rfl, hQ M Fr.rf⟩
    · rw [if_neg q2, if_neg (by omega)]; exact ⟨_, rfl, hQ M Fr.rf⟩
  rw [if_pos q1] at hQ
  rw [if_neg (by omega), if_pos q1.2, p4, p7]
  refine ⟨sh53', s114 h hp (fun M1 g1 hT hN => ⟨hi, ?_⟩)⟩
  have hp1 := hp.fr g1
  have e14 := (h.fr g1).2.2.2.2.2.2.2.2.1
  obtain ⟨hTs, hok⟩ := hT s q1.1 q1.2
  have fin := hQ M1 g1
  have l240 := tb.1 s
  rw [e14]
  by_cases q3 : i = -1
  · rw [if_pos q3] at fin ⊢
    rw [s117 hp1 q1.1 q1.2 hTs]
    exact ⟨sh53', _, rfl, fin⟩
  rw [if_neg q3] at fin ⊢
  refine ⟨sh53', ?_⟩
  refine t_118 sh53.1 ⟨hi, ?_⟩
  by_cases q4 : i < 0
  · rw [if_pos q4] at fin ⊢
    exact ⟨_, rfl, _, rfl, fin⟩
  rw [if_neg q4] at fin ⊢
  rw [s117 hp1 q1.1 q1.2 hTs]
  refine ⟨by omega, ?_⟩
  by_cases q5 : ((tal L W s).length : Int) ≤ i
  · rw [if_pos q5] at fin ⊢
    exact ⟨_, rfl, _, rfl, fin⟩
  rw [if_neg q5] at fin ⊢
  refine ⟨hw, ?_⟩
  by_cases q6 : what < 0
  · rw [if_pos q6] at fin
    rw [if_neg (show ¬ 0 ≤ what by omega)]
    exact ⟨_, rfl, _, rfl, fin⟩
  rw [if_neg q6] at fin
  obtain ⟨g54, g58, g55, g59, -⟩ := tlg q1.1 q1.2 (i := i) (by omega) (by omega)
  obtain ⟨f1, f2⟩ := hp1.2.2.2.2 s q1.1 q1.2
  have hTi := hTs.2 i.toNat (by omega)
  rw [show ((i.toNat : Nat) : Int) = i by omega] at hTi
  have hoki := hok _ (tg_mem (T := tal L W s) (i := i.toNat) (by omega))
  have b12 := bd3_12 s
  rw [if_pos (show 0 ≤ what by omega), hp1.2.1, hp1.2.2.1, f1, f2, hTi.1, hTi.2]
  refine ⟨g54, g55, ?_⟩
  by_cases w0 : what = 0
  · rw [if_pos w0] at fin ⊢
    exact ⟨g58, g59, _, rfl, _, rfl, fin⟩
  rw [if_neg w0] at fin ⊢
  by_cases w1 : what = 1
  · rw [if_pos w1] at fin ⊢
    rw [s85 hoki.1 (by omega)]
    exact ⟨_, rfl, _, rfl, fin⟩
  · rw [if_neg w1] at fin ⊢
    rw [s86 hoki.1 (by omega) (by omega)]
    exact ⟨_, rfl, _, rfl, fin⟩
theorem s120 {Q : Int → Mem → Prop} {w : Int} (hp : PtrT M) (h0 : 0 ≤ s) (h1 : s < 3) (hT : TlC M s T) (hlen : T.length ≤ 240) (hpos : ∀ i : Nat, i < T.length → 1 ≤ (tg T i).2 ∧ (tg T i).2 ≤ 240) (hw : 0 ≤ w ∧ w < 1000) : WL 120 [vR 53, vI s, vI w] M Q = Q (keyOf (pick T w)) M := by
  have key : ∀ (n j : Nat) (a : Int) (P : AV → Mem → Prop), j + n = T.length → 0 ≤ a → a ≤ w → P (vL (keyOf (pick (T.drop j) (w - a)))) M → WR 120 5 [some (vR 53), some (vI s), some (vI w), some (vI a), some (vI j)] [] M P := by
    intro n
    induction n with
    | zero =>
      intro j a P hj a0 aw hP
      obtain ⟨-, -, -, -, g62⟩ := tlg h0 h1 (i := 0) (by decide) (by decide)
      refine t_120_5 sh53.1 ?_
      rw [hp.2.2.2.1, hT.1]
      refine ⟨g62, by omega, by omega, ?_⟩
      rw [if_pos (by omega)]
      rw [List.drop_eq_nil_of_le (by omega)] at hP
      exact hP
    | succ n ih =>
      intro j a P hj a0 aw hP
      obtain ⟨g54, g58, g55, g59, g62⟩ := tlg h0 h1 (i := (j : Int)) (by omega) (by omega)
      obtain ⟨f1, f2⟩ := hp.2.2.2.2 s h0 h1
      have hTi := hT.2 j (by omega)
      have hr := hpos j (by omega)
      have ed : T.drop j = tg T j :: T.drop (j + 1) := by
        unfold tg
        rw [List.getD_eq_getElem?_getD, List.getElem?_eq_getElem (by omega)]
        exact (List.getElem_cons_drop (by omega)).symm
      rw [ed, pick_c] at hP
      refine t_120_5 sh53.1 ?_
      rw [hp.2.2.2.1, hT.1, hp.2.1, hp.2.2.1, f1, f2, hTi.1, hTi.2]
      refine ⟨g62, by omega, by omega, ?_⟩
      rw [if_neg (by omega)]
      refine ⟨g58, g59, by omega, by omega, ?_⟩
      by_cases q : a + (tg T j).2 ≤ w
      · rw [if_pos q]
        rw [if_neg (by omega)] at hP
        exact ih (j + 1) _ P (by omega) (by omega) q (by rw [show w - (a + (tg T j).2) = w - a - (tg T j).2 by omega]; exact hP)
      · rw [if_neg q]
        rw [if_pos (by omega)] at hP
        exact ⟨g54, g55, hP⟩
  exact FN.wl (WC.fn (t_120 sh53.1 (key T.length 0 0 _ (by omega) (by decide) hw.1 ⟨by rw [List.drop_zero, Int.sub_zero], rfl⟩)))
theorem tal_ok (hon : ∀ i : Nat, i < W.length → dg (W.getD i []) ∧ (W.getD i []).length ≤ 12) (s : Int) : TOk s (tal L W s) := by
  have k1 : ∀ (i : Nat), i < W.length → ∀ (m : Nat) (k : Int) (T : Tb), 0 ≤ k → k + m = cnt (XWi L W i) → TOk s T → TOk s (tlK (XWi L W i) s m k T) := by
    intro i hi m
    induction m with
    | zero => intro k T _ _ h; exact h
    | succ m ih =>
      intro k T k0 km h
      have hH := X0_h L _ (hon i hi).2
      have hp := part3_ok (X := XWi L W i) (s := s) hH (XP_g hH (X0_g L _ (hon i hi).2)) (hon i hi).1 rfl k0 (by omega)
      rw [tlK_s]
      exact ih (k + 1) _ (by omega) (by omega) (fun e he => tAdd_all (P := fun x => dg x ∧ (x.length : Int) ≤ bd3 s) _ _ h hp e he)
  have k2 : ∀ (n i : Nat) (T : Tb), i + n = W.length → TOk s T → TOk s (tlW L W s n i T) := by
    intro n
    induction n with
    | zero => intro i T _ h; exact h
    | succ n ih =>
      intro i T hi h
      rw [tlW_s]
      exact ih (i + 1) _ (by omega) (k1 i (by omega) _ 0 T (by omega) (by unfold cnt; omega) h)
  exact k2 W.length 0 [] (by omega) (fun e he => by cases he)
theorem cMade {Q : Int → Mem → Prop} {seed n : Int} (h : ClsQ M p q L W S c) (hp : PtrT M) (hn : inR n) (hi : inR i) (hQ : ∀ M' : Mem, Fr M M' → Q (aMade L W seed n i) M') : WI 169 [vR 1, vI seed, vI n, vI i] M Q := by
  have tb := tal_b h.1.1.2.2.2.2.2 h.won h.1.2.1.2.2.2.1
  have tok := tal_ok (L := L) h.won
  have p4 := h.2.2.2.2.2.2.2.2.1
  have p7 := h.2.2.2.2.2.2.2.2.2.2.2.1
  have sh53' : (shA SH 53).1 = 8 := sh53.1.2
  unfold aMade at hQ
  refine t_169 o1.1 ⟨hn, ?_⟩
  by_cases q1 : 1 ≤ n ∧ n ≤ 4
  rotate_left
  · rw [if_neg q1] at hQ
    by_cases q2 : n < 1
    · rw [if_pos q2]; exact ⟨_, rfl, hQ M Fr.rf⟩
    · rw [if_neg q2, if_pos (by omega)]; exact ⟨_, rfl, hQ M Fr.rf⟩
  rw [if_pos q1] at hQ
  rw [if_neg (by omega), if_neg (by omega)]
  refine ⟨hi, ?_⟩
  by_cases q2 : i < -1
  · rw [if_pos q2] at hQ
    rw [if_neg (by omega)]
    exact ⟨_, rfl, hQ M Fr.rf⟩
  rw [if_neg q2] at hQ
  rw [if_pos (by omega), p4, p7]
  refine ⟨sh53', s114 h hp (fun M1 g1 hT hN => ?_)⟩
  have hp1 := hp.fr g1
  have e14 := (h.fr g1).2.2.2.2.2.2.2.2.1
  have fin := hQ M1 g1
  rw [e14]
  refine ⟨sh53', t_119 sh53.1 ?_⟩
  rw [hN]
  refine ⟨by omega, ?_⟩
  by_cases q3 : allSyl L W ≤ 0
  · rw [if_pos q3] at fin
    rw [if_neg (show ¬ 0 < allSyl L W by omega)]
    exact ⟨_, rfl, _, rfl, fin⟩
  rw [if_neg q3] at fin
  rw [if_pos (show 0 < allSyl L W by omega)]
  have key : ∀ (m t : Nat) (d size : Int) (l7 l9 : Option AV), t + m = 3 * n.toNat → 0 ≤ size → size ≤ 12 * t → (size ≤ i ∨ i = -1) → (if i = -1 then size + (mk3 L W m t d).length else gi (mk3 L W m t d) (i - size)) = (if i = -1 then ((mk3 L W (3 * n.toNat) 0 seed).length : Int) else gi (mk3 L W (3 * n.toNat) 0 seed) i) → WR 119 18 [some (vR 53), some (vI seed), some (vI n), some (vI i), some (vI d), some (vI size), some (vI t), l7, none, l9] [] M1 (fun r M' => ∃ x, r = vI x ∧ ∃ y, vI x = vI y ∧ Q y M') := by
    intro m
    induction m with
    | zero =>
      intro t d size l7 l9 ht s0 s1 hsi he
      refine t_119_18 sh53.1 ⟨by omega, by omega, ?_⟩
      rw [if_pos (by omega)]
      refine ⟨hi, ?_⟩
      by_cases q4 : i = -1
      · rw [if_pos q4] at he fin ⊢
        rw [if_pos q4] at he
        rw [← he, show ((mk3 L W 0 t d).length : Int) = 0 from rfl, Int.add_zero] at fin
        exact ⟨_, rfl, _, rfl, fin⟩
      · rw [if_neg q4] at he fin ⊢
        rw [if_neg q4] at he
        rw [← he, show mk3 L W 0 t d = [] from rfl] at fin
        rw [gi_out (l := []) (Or.inr (by show (0 : Int) ≤ _; omega))] at fin
        exact ⟨_, rfl, _, rfl, fin⟩
    | succ m ih =>
      intro t d size l7 l9 ht s0 s1 hsi he
      have m3 : 0 ≤ (t : Int).tmod 3 ∧ (t : Int).tmod 3 < 3 := ⟨Int.tmod_nonneg _ (by omega), Int.tmod_lt_of_pos _ (by decide)⟩
      have dr : 0 ≤ (d * 1103515245 + 12345) % 4294967296 / 65536 ∧ (d * 1103515245 + 12345) % 4294967296 / 65536 < 65536 := by omega
      have mw : 0 ≤ ((d * 1103515245 + 12345) % 4294967296 / 65536).tmod (allSyl L W) ∧ ((d * 1103515245 + 12345) % 4294967296 / 65536).tmod (allSyl L W) < allSyl L W := ⟨Int.tmod_nonneg _ dr.1, Int.tmod_lt_of_pos _ (by omega)⟩
      have hTs := (hT _ m3.1 m3.2).1
      have hr := tl_r (tok _) (tb.2.2.1 ((t : Int).tmod 3)) (by rw [tb.2.1]; omega)
      have po := pick_ok (tal L W ((t : Int).tmod 3)) (((d * 1103515245 + 12345) % 4294967296 / 65536).tmod (allSyl L W)) (tok _)
      have b12 := bd3_12 ((t : Int).tmod 3)
      rw [mk3_s] at he
      refine t_119_18 sh53.1 ⟨by omega, by omega, ?_⟩
      rw [if_neg (by omega), hN]
      rw [s120 hp1 m3.1 m3.2 hTs (tb.1 _) hr ⟨mw.1, by omega⟩]
      generalize pick (tal L W ((t : Int).tmod 3)) (((d * 1103515245 + 12345) % 4294967296 / 65536).tmod (allSyl L W)) = y at he po ⊢
      rw [s85 po.1 (by omega)]
      refine ⟨⟨by decide, by omega, by omega, by decide⟩, ⟨by omega, by omega, by omega, by omega⟩, hi, by omega, ?_⟩
      rw [List.length_append] at he
      have nx : ∀ l7 l9 : Option AV, (size + y.length ≤ i ∨ i = -1) → WR 119 18 [some (vR 53), some (vI seed), some (vI n), some (vI i), some (vI (d * 1103515245 + 12345)), some (vI (size + y.length)), some (vI ((t : Int) + 1)), l7, none, l9] [] M1 (fun r M' => ∃ x, r = vI x ∧ ∃ y, vI x = vI y ∧ Q y M') := fun l7 l9 hh => by
        refine ih (t + 1) _ _ l7 l9 (by omega) (by omega) (by omega) hh ?_
        rw [← he]
        by_cases q4 : i = -1
        · rw [if_pos q4, if_pos q4]; omega
        · rw [if_neg q4, if_neg q4, gi_app (by omega), if_neg (by omega), show i - (size + (y.length : Int)) = i - size - y.length by omega]
      by_cases q5 : i < size
      · rw [if_pos q5]
        exact nx _ _ (by omega)
      · rw [if_neg q5]
        refine ⟨by omega, ?_⟩
        by_cases q6 : size + (y.length : Int) ≤ i
        · rw [if_pos q6]
          exact nx _ _ (Or.inl q6)
        · rw [if_neg q6, s86 po.1 (by omega) (by omega)]
          rw [if_neg (show ¬ i = -1 by omega), if_neg (show ¬ i = -1 by omega), gi_app (by omega), if_pos (by omega)] at he
          rw [if_neg (show ¬ i = -1 by omega), ← he] at fin
          exact ⟨_, rfl, _, rfl, fin⟩
  exact key (3 * n.toNat) 0 seed 0 _ _ (by omega) (by omega) (by omega) (by omega) (by
    by_cases q4 : i = -1
    · rw [if_pos q4, if_pos q4, Int.zero_add]
    · rw [if_neg q4, if_neg q4, Int.sub_zero])
end MA
