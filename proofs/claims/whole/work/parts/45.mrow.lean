/-! a row that is read, by the model -/
section MW
variable {M M' : Mem} {ft fp : Int} {T : List Int} {t : Tk} {L : Lw}
/-- a row's fault, its length aside -/
def rE0 (L : Lw) (T : List Int) (t : Tk) (pk : Int) : Int := if t.1 ≠ 1 then wrg t else if (cds L T t).any (badA L pk) = true then 3 else 0
theorem rEr_0 {pk : Int} {lo hi : Nat} : rEr L T t pk lo hi = if rE0 L T t pk ≠ 0 then rE0 L T t pk else if t.2.2 < lo ∨ hi < t.2.2 then 4 else 0 := by
  have wr := @wrg_r t
  unfold rEr rE0
  by_cases q : t.1 = 1
  · have q' : ¬ t.1 ≠ 1 := by omega
    rw [if_neg q', if_neg q']
    by_cases q1 : (cds L T t).any (badA L pk) = true
    · rw [if_pos q1, if_pos (show (if (cds L T t).any (badA L pk) = true then (3 : Int) else 0) ≠ 0 by rw [if_pos q1]; decide), if_pos q1]
    · rw [if_neg q1, if_neg (show ¬ (if (cds L T t).any (badA L pk) = true then (3 : Int) else 0) ≠ 0 by rw [if_neg q1]; decide)]
  · rw [if_pos q, if_pos q, if_pos (by omega)]
theorem rE0_r {pk : Int} : 0 ≤ rE0 L T t pk ∧ rE0 L T t pk ≤ 5 := by
  have wr := @wrg_r t
  unfold rE0
  split
  · omega
  · split <;> omega
theorem z207 : shA SH 207 = (20, 26) ∧ shA SH 210 = (20, 16) := by decide +kernel
theorem st194 {Q : Mem → Prop} {x1 : Int} {x2 : Nat} {l3 : Option AV} (h : TmR M T t ft fp) (hf : 1 ≤ ft ∧ ft ≤ 5) (h2 : x2 ≤ 900) (hQ : Q M) : WR 194 22 [some (vR 204), some (vI x1), some (vI x2), l3] [] M (fun _ M' => Q M') := by
  have f7 := h.2.1.2.2.2.2.2
  have d : decide (ft = 0) = false := decide_eq_false (by omega)
  refine t_194_22 o204 ⟨by omega, by omega, ?_⟩
  by_cases q : M 204 7 ≤ x2
  · rw [if_pos q]
    exact hQ
  · rw [if_neg q, m189 h.2.2.2.1 (by omega), d]
    refine ⟨by decide, ?_⟩
    rw [if_pos (by decide)]
    exact hQ
theorem m194 {Q : Mem → Prop} {pk : Int} (h : TmR M T t 0 fp) (hp : PtrM M) (hI : ∀ c : Int, 0 ≤ c → c < 26 → M 207 c = numOf L (c + 97)) (hP : ∀ s : Int, 0 ≤ s → s < Ln L → M 210 s = b2i (Lpk L s)) (hn : Ln L ≤ 16) (hpk : 0 ≤ pk ∧ pk ≤ 2) (hQ : ∀ M' : Mem, FrJ M M' → (if rE0 L T t pk = 0 then M' = M else TmR M' T t (rE0 L T t pk) t.2.1) → Q M') : WV 194 [vR 204, vI (if pk = 0 then 2 else pk - 1)] M Q := by
  obtain ⟨k4, f5, f4, f8, f9⟩ := h.sp
  have wr := @wrg_r t
  have p12 : M 204 12 = 206 := h.1.1.2
  have p27 : M 204 27 = 207 := hp.at (by decide)
  have p30 : M 204 30 = 210 := hp.at (by decide)
  refine t_194 o204 ?_
  rw [m189 f8 (by decide), f5]
  refine ⟨by decide, ?_⟩
  rw [if_neg (by decide)]
  refine ⟨by omega, ?_⟩
  by_cases q : t.1 = 1
  rotate_left
  · have en : rE0 L T t pk = wrg t := by unfold rE0; rw [if_pos q]
    rw [if_neg q]
    refine m188 h (by decide) (fun M1 g1 h1 => ?_)
    have ew : (if (0 : Int) = 0 then (if t.1 = 4 then (1 : Int) else 2) else 0) = wrg t := by rw [if_pos rfl]; rfl
    rw [ew, if_pos rfl] at h1
    have := hQ M1 g1
    rw [en, if_neg (by omega)] at this
    exact st194 (x2 := 0) h1 (by omega) (by omega) (this h1)
  obtain ⟨l1, l2, l3⟩ := h.2.2.1.2.1 q
  obtain ⟨f7, -, f6⟩ := h.2.1.2.2.2.2.1 q
  have cl := @cds_len T t L h.2.2.1
  rw [if_pos q]
  have fault : ∀ (j : Nat) (l : Option AV) (x1 : Int), j ≤ 900 → rE0 L T t pk = 3 → WV 188 [vR 204, vI 3] M (fun M7 => WR 194 22 [some (vR 204), some (vI x1), some (vI j), l] [] M7 (fun _ M' => Q M')) := fun j l x1 hj en => by
    refine m188 h (by decide) (fun M1 g1 h1 => ?_)
    rw [if_pos rfl, if_pos rfl, if_neg (by omega)] at h1
    have := hQ M1 g1
    rw [en, if_neg (by decide)] at this
    exact st194 h1 (by decide) hj (this h1)
  have key : ∀ (n j : Nat) (l : Option AV), j + n = t.2.2 → ((cds L T t).take j).any (badA L pk) = false → WR 194 22 [some (vR 204), some (vI (if pk = 0 then 2 else pk - 1)), some (vI j), l] [] M (fun _ M' => Q M') := by
    intro n
    induction n with
    | zero =>
      intro j l hj hb
      rw [List.take_of_length_le (by omega)] at hb
      have en : rE0 L T t pk = 0 := by unfold rE0; rw [if_neg (by omega), if_neg (by rw [hb]; decide)]
      have := hQ M FrJ.rf
      rw [if_pos en] at this
      refine t_194_22 o204 ⟨by omega, by omega, ?_⟩
      rw [if_pos (by omega)]
      exact this rfl
    | succ n ih =>
      intro j l hj hb
      have br := l3 j (by omega)
      have ca := @cds_at T t L h.2.2.1 j (by omega)
      have ct : (cds L T t).take (j + 1) = (cds L T t).take j ++ [numOf L (bt T (t.2.1 + j))] := by
        rw [List.take_add_one, ca]
        rfl
      have nr := num_r L (bt T (t.2.1 + j))
      have hi := hI (bt T (t.2.1 + j) - 97) (by omega) (by omega)
      rw [show bt T (t.2.1 + j) - 97 + 97 = bt T (t.2.1 + j) by omega] at hi
      refine t_194_22 o204 ⟨by omega, by omega, ?_⟩
      rw [if_neg (by omega), m189 f8 (by decide)]
      refine ⟨by decide, ?_⟩
      rw [if_neg (by decide), p12, p27, p30, f6 j (by omega), hi]
      generalize numOf L (bt T (t.2.1 + j)) = a at *
      have b3 : badA L pk a = true → rE0 L T t pk = 3 := fun z => by
        unfold rE0
        rw [if_neg (by omega), if_pos (List.any_eq_true.mpr ⟨a, List.mem_of_getElem? ca, z⟩)]
      have next : badA L pk a = false → WR 194 22 [some (vR 204), some (vI (if pk = 0 then 2 else pk - 1)), some (vI ((j : Int) + 1)), some (vI a)] [] M (fun _ M' => Q M') := fun z => by
        refine ih (j + 1) (some (vI a)) (by omega) ?_
        rw [ct, List.any_append, hb, List.any_cons, z]
        rfl
      refine ⟨gC z206 (by omega) (by show _ < ((12 : Nat) : Int); omega), gC z207.1 (by omega) (by show _ < ((26 : Nat) : Int); omega), by omega, ?_⟩
      by_cases q1 : a = -1
      · rw [if_pos q1]
        exact fault (j + 1) _ _ (by omega) (b3 (by unfold badA; rw [decide_eq_true q1]; rfl))
      rw [if_neg q1]
      have d1 := decide_eq_false q1
      have pk' : pkn L a = Lpk L a := by
        unfold pkn
        rw [decide_eq_true (show 0 ≤ a ∧ a < Ln L from ⟨by omega, nr.2.1⟩)]
        rfl
      have pb := b2i_r (Lpk L a)
      refine ⟨by split <;> omega, ?_⟩
      by_cases q0 : pk = 0
      · rw [if_pos q0] at next ⊢
        rw [if_pos (by decide)]
        exact next (by unfold badA; rw [d1, decide_eq_false (show ¬ pk = 1 by omega), decide_eq_false (show ¬ pk = 2 by omega)]; rfl)
      rw [if_neg q0] at next ⊢
      rw [if_neg (by omega), hP a (by omega) nr.2.1]
      refine ⟨gC z207.2 (by omega) (by show _ < ((16 : Nat) : Int); omega), by omega, ?_⟩
      cases hl : Lpk L a
      · rw [hl] at pk'
        by_cases q2 : pk = 1
        · rw [if_pos (by rw [q2]; rfl)]
          exact next (by unfold badA; rw [d1, pk', decide_eq_false (show ¬ pk = 2 by omega), decide_eq_true q2]; rfl)
        · rw [if_neg (by show ¬ (0 : Int) = _; omega)]
          exact fault (j + 1) _ _ (by omega) (b3 (by unfold badA; rw [d1, pk', decide_eq_true (show pk = 2 by omega), decide_eq_false q2]; rfl))
      · rw [hl] at pk'
        by_cases q2 : pk = 2
        · rw [if_pos (by rw [q2]; rfl)]
          exact next (by unfold badA; rw [d1, pk', decide_eq_true q2, decide_eq_false (show ¬ pk = 1 by omega)]; rfl)
        · rw [if_neg (by show ¬ (1 : Int) = _; omega)]
          exact fault (j + 1) _ _ (by omega) (b3 (by unfold badA; rw [d1, pk', decide_eq_true (show pk = 1 by omega)]; rfl))
  exact key t.2.2 0 none (Nat.zero_add _) rfl
end MW
