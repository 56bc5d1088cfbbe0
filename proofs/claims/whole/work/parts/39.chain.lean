/-! THE ACTS of the class beside the snapshots of the model. -/
def StpE (e : En) (s s' : Sn) : Prop := (e.1 = 0 ∧ e.2.1 = s.1.length ∧ s'.2 = s.2 ∧ ∃ w, s'.1 = s.1 ++ [w]) ∨ (e.1 = 1 ∧ s'.2 = s.2 ∧ s.1.length ≤ 20 ∧ ∃ d : Nat, d < s.1.length ∧ e.2.1 = d ∧ e.2.2.2 = s.1.getD d [] ∧ s'.1 = delL d s.1) ∨ (e.1 = 2 ∧ s'.1 = s.1 ∧ 0 ≤ e.2.1 ∧ e.2.1 < 6 ∧ e.2.2.1 = s.2 e.2.1 ∧ 0 ≤ e.2.2.1 ∧ e.2.2.1 ≤ 999 ∧ ∃ v, s'.2 = updC s.2 e.2.1 v)
theorem stp_back {e : En} {s s' : Sn} (h : StpE e s s') : back e s' = s ∧ okE e s'.1 := by
  obtain ⟨W, c⟩ := s
  obtain ⟨W', c'⟩ := s'
  unfold back okE
  rcases h with ⟨h1, h2, h3, w, h4⟩ | ⟨h1, h3, h2, d, h4, h5, h6, h7⟩ | ⟨h1, h2, h3, h4, h5, h6, h7, v, h8⟩
  · dsimp only at h2 h3 h4 ⊢
    refine ⟨?_, Or.inl ⟨h1, by omega, by rw [h4, List.length_append, List.length_singleton]; omega⟩⟩
    rw [if_pos h1, h2, h3, h4, Int.toNat_natCast, app_del]
  · dsimp only at h2 h3 h4 h6 h7 ⊢
    refine ⟨?_, Or.inr (Or.inl ⟨h1, by omega, by rw [h7, delL_len h4]; omega, by rw [h7, delL_len h4]; omega⟩)⟩
    rw [if_neg (by omega), if_pos h1, h5, h3, h6, h7, Int.toNat_natCast, del_ins h4]
  · dsimp only at h2 h5 h8 ⊢
    refine ⟨?_, Or.inr (Or.inr ⟨h1, h3, h4, h6, h7⟩)⟩
    rw [if_neg (by omega), if_neg (by omega), h2, h8]
    congr 1
    funext j
    unfold updC
    by_cases q : j = e.2.1
    · rw [if_pos q, q, h5]
    · rw [if_neg q, if_neg q]
def Chn (E : List En) (A : List Sn) (s : Sn) : Prop := E.length = A.length ∧ ∀ j : Nat, j < A.length → StpE (eg E j) (sg (A ++ [s]) j) (sg (A ++ [s]) (j + 1))
theorem chn_nil {s : Sn} : Chn [] [] s := ⟨rfl, fun j hj => absurd hj (Nat.not_lt_zero _)⟩
theorem chn_tail {E : List En} {A : List Sn} {s : Sn} (h : Chn E A s) (ha : 0 < A.length) : Chn E.tail A.tail s := by
  obtain ⟨h1, h2⟩ := h
  have e : ∀ j : Nat, sg (A.tail ++ [s]) j = sg (A ++ [s]) (j + 1) := fun j => by
    rw [sg_app, sg_app, sg_tail, List.length_tail]
    by_cases q : j + 1 < A.length
    · rw [if_pos q, if_pos (by omega)]
    · rw [if_neg q, if_neg (by omega), show j - (A.length - 1) = j + 1 - A.length by omega]
  refine ⟨by rw [List.length_tail, List.length_tail, h1], fun j hj => ?_⟩
  rw [List.length_tail] at hj
  rw [e, e, eg_tail]
  exact h2 (j + 1) (by omega)
theorem chn_app {E : List En} {A : List Sn} {s s' : Sn} {e : En} (h : Chn E A s) (hs : StpE e s s') : Chn (E ++ [e]) (A ++ [s]) s' := by
  obtain ⟨h1, h2⟩ := h
  refine ⟨by rw [List.length_append, List.length_append, h1]; rfl, fun j hj => ?_⟩
  rw [List.length_append, List.length_singleton] at hj
  have l1 : (A ++ [s]).length = A.length + 1 := by rw [List.length_append]; rfl
  rw [sg_app, if_pos (by omega), eg_app]
  by_cases q : j < A.length
  · rw [if_pos (by omega), sg_app (i := j + 1), if_pos (by omega)]
    exact h2 j q
  · have ej : j = A.length := by omega
    rw [if_neg (by omega), ej, h1, Nat.sub_self, sg_app, if_neg (by omega), Nat.sub_self, sg_app, if_neg (by omega), l1, Nat.sub_self]
    exact hs
theorem chn_push {E : List En} {A : List Sn} {s s' : Sn} {e : En} (h : Chn E A s) (hs : StpE e s s') : Chn (pushE E e) (pushA A s) s' := by
  unfold pushE pushA
  rw [h.1]
  by_cases q : A.length < 12
  · rw [if_pos q, if_pos q]
    exact chn_app h hs
  · rw [if_neg q, if_neg q]
    exact chn_app (chn_tail h (by omega)) hs
theorem chn_pop {E : List En} {A : List Sn} {s' : Sn} {e : En} (h : Chn (E ++ [e]) A s') : ∃ A0 s, A = A0 ++ [s] ∧ Chn E A0 s ∧ StpE e s s' := by
  obtain ⟨h1, h2⟩ := h
  rw [List.length_append, List.length_singleton] at h1
  have hne : A ≠ [] := fun z => by rw [z] at h1; exact absurd h1 (by simp)
  obtain ⟨A0, s, rfl⟩ : ∃ A0 s, A = A0 ++ [s] := ⟨A.dropLast, A.getLast hne, (List.dropLast_concat_getLast hne).symm⟩
  rw [List.length_append, List.length_singleton] at h1 h2
  have l1 : (A0 ++ [s]).length = A0.length + 1 := by rw [List.length_append]; rfl
  refine ⟨A0, s, rfl, ⟨by omega, fun j hj => ?_⟩, ?_⟩
  · have := h2 j (by omega)
    rw [sg_app, if_pos (by omega), eg_app, if_pos (by omega), sg_app (i := j + 1), if_pos (by omega)] at this
    exact this
  · have := h2 A0.length (by omega)
    rw [eg_app, if_neg (by omega), show A0.length - E.length = 0 by omega, sg_app, if_pos (by omega), sg_app, if_neg (by omega), Nat.sub_self, sg_app, if_neg (by omega), l1, Nat.sub_self] at this
    exact this
