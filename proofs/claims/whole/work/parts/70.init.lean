/-! BOTH OBJECTS as they begin; what a call of one leaves of the other -/
section IN
variable {M M' N : Mem} {p p' q q' ft fp : Int} {T : List Int} {L : Lw} {W S : List (List Int)} {c : Int → Int} {E : List En} {A : List Sn}
theorem ClsS.eq (h : ClsS M p p' q q' T ft fp L W S c E) (e : ∀ k : Int, 0 < k → k ≤ 203 → M' k = M k) : ClsS M' p p' q q' T ft fp L W S c E := by
  obtain ⟨a0, a1, a2, a3, a4, a5, a6, a7, a8, a9⟩ := h
  obtain ⟨hp, hp', hq, hq', hpp, hqq, -⟩ := two_c a0
  have ep : ∀ k : Int, p ≤ k → k ≤ p + 53 → M' k = M k := fun k x y => e k (by omega) (by omega)
  have ep' : ∀ k : Int, p' ≤ k → k ≤ p' + 53 → M' k = M k := fun k x y => e k (by omega) (by omega)
  have eq : ∀ k : Int, q ≤ k → k ≤ q + 18 → M' k = M k := fun k x y => e k (by omega) (by omega)
  have eq' : ∀ k : Int, q' ≤ k → k ≤ q' + 18 → M' k = M k := fun k x y => e k (by omega) (by omega)
  have el : ∀ k : Int, 0 < k → k ≤ 95 → M' k = M k := fun k x y => e k x (by omega)
  have e1 : M' 1 = M 1 := el 1 (by decide) (by decide)
  have e9 : M' 9 = M 9 := el 9 (by decide) (by decide)
  have e14 : M' 14 = M 14 := el 14 (by decide) (by decide)
  clear e hp hp' hq hq' hpp hqq
  obtain ⟨⟨x1, x2, x3, x4, x5, x6⟩, b2, b3, b4, b5⟩ := a1
  have hW : WrdP M' (p + 8) 20 L W := WrdP.kp ⟨x2, a6⟩ (fun k a b => ep k (by omega) (by omega))
  have hS : WrdP M' q 8 L S := WrdP.kp ⟨b3, a7⟩ (fun k a b => eq k (by omega) (by omega))
  refine ⟨a0, ⟨⟨x1.eq ep, hW.1, by rw [e9]; exact x3, by rw [e9]; exact x4, by rw [e9]; exact x5, by rw [e9]; exact x6⟩, b2, hS.1, fun i a b => by rw [ep (p + 53) (by omega) (by omega)]; exact b4 i a b, ?_⟩, ?_, ?_, ?_, ?_, hW.2, hS.2, a8.fr (el 2 (by decide) (by decide)) (el 3 (by decide) (by decide)), a9.fr (fun k a b => el k (by omega) (by omega))⟩
  · unfold PtrC at b5 ⊢
    rw [e1, e14]
    exact b5
  · unfold PtrT at a2 ⊢
    rw [el 53 (by decide) (by decide), el 54 (by decide) (by decide), el 58 (by decide) (by decide)]
    exact a2
  · unfold PtrD at a3 ⊢
    rw [el 63 (by decide) (by decide), el 64 (by decide) (by decide)]
    exact a3
  · unfold RdP at a4 ⊢
    rw [el 4 (by decide) (by decide), el 5 (by decide) (by decide)]
    exact a4
  · obtain ⟨z1, z2, z3, z4, z5, z6⟩ := a5
    exact ⟨by rw [e1]; exact z1, by rw [e14]; exact z2, z3.fr' (ep' _ (by omega) (by omega)) (ep' _ (by omega) (by omega)) (ep' _ (by omega) (by omega)), by rw [eq' q' (by omega) (by omega)]; exact z4, z5.fr' (ep' _ (by omega) (by omega)) (fun r a b => ep' r (by omega) (by omega)), z6.fr' (eq' _ (by omega) (by omega)) (fun r a b => eq' r (by omega) (by omega))⟩
theorem MdlS.eq (h : MdlS M T ft fp L W S c A) (e : ∀ k : Int, 204 ≤ k → M' k = M k) : MdlS M' T ft fp L W S c A := by
  refine h.rd (fun k a _ _ => e k (by omega)) (fun j _ _ => by rw [e 204 (by decide)]) ?_
  have := h.2.2.1
  unfold TapM at this ⊢
  rw [e 204 (by decide), e 205 (by decide)]
  exact this
theorem eqL_at {f : Int → Int} : ∀ (l : List Int) (j : Int), eqL f j l = true → ∀ i : Nat, i < l.length → f (j + i) = l.getD i 0
  | [], _, _, i, hi => absurd hi (Nat.not_lt_zero _)
  | v :: l, j, h, 0, _ => by
    unfold eqL at h
    rw [Bool.and_eq_true] at h
    have := of_decide_eq_true h.1
    rw [show j + ((0 : Nat) : Int) = j by omega, this]
    rfl
  | v :: l, j, h, i + 1, hi => by
    unfold eqL at h
    rw [Bool.and_eq_true] at h
    have := eqL_at l (j + 1) h.2 i (Nat.lt_of_succ_lt_succ hi)
    rw [show j + ((i + 1 : Nat) : Int) = j + 1 + i by omega, this]
    rfl
/-- what the table says of a place -/
def fcv (k j : Int) : Option Int := match fcT.find? (fun f => f.1 == k) with
  | some f => if f.2.1 ≤ j ∧ j < f.2.1 + f.2.2.length then some (f.2.2.getD (j - f.2.1).toNat 0) else none
  | none => none
theorem fc_v {k j v : Int} (h : FcOk N) (e : fcv k j = some v) : N k j = v := by
  unfold fcv at e
  split at e
  · rename_i f hf
    split at e
    · rename_i hj
      cases e
      have hm := List.mem_of_find?_eq_some hf
      have hk : f.1 = k := by
        have := List.find?_some hf
        exact beq_iff_eq.mp this
      have := eqL_at f.2.2 f.2.1 (h f hm) (j - f.2.1).toNat (by omega)
      rw [hk, show f.2.1 + ((j - f.2.1).toNat : Int) = j by omega] at this
      exact this
    · cases e
  · cases e
def rptB (a : Int) (n : Nat) (lo hi : Int) : Bool := (List.range n).all (fun i => match fcv a i with
  | some r => decide (0 < r) && decide (shA SH r = (5, 3)) && decide (shA SH (r + 1) = (20, 12)) && (fcv r 0 == some (r + 1)) && decide (lo ≤ r) && decide (r ≤ hi)
  | none => false) && (List.range n).all fun j => (List.range j).all fun i => fcv a i != fcv a j
theorem rpt_i {a : Int} {n : Nat} {lo hi : Int} (h : FcOk N) (e : rptB a n lo hi = true) : RPt N a n lo hi := by
  unfold rptB at e
  rw [Bool.and_eq_true] at e
  have e1 : ∀ i : Nat, i < n → ∃ r, fcv a i = some r ∧ RowC r ∧ fcv r 0 = some (r + 1) ∧ lo ≤ r ∧ r ≤ hi := fun i hi => by
    have := List.all_eq_true.mp e.1 i (List.mem_range.mpr hi)
    split at this
    · rename_i r hr
      simp only [Bool.and_eq_true, decide_eq_true_eq, beq_iff_eq] at this
      obtain ⟨⟨⟨⟨⟨x1, x2⟩, x3⟩, x4⟩, x5⟩, x6⟩ := this
      exact ⟨r, hr, ⟨x1, x2, x3⟩, x4, x5, x6⟩
    · cases this
  refine ⟨fun i i0 i1 => ?_, fun i j i0 ij j1 => ?_⟩
  · obtain ⟨k, rfl⟩ := Int.eq_ofNat_of_zero_le i0
    obtain ⟨r, y1, y2, y3, y4, y5⟩ := e1 k (by omega)
    rw [fc_v h y1]
    exact ⟨y2, fc_v h y3, y4, y5⟩
  · obtain ⟨k, rfl⟩ := Int.eq_ofNat_of_zero_le i0
    obtain ⟨m, rfl⟩ := Int.eq_ofNat_of_zero_le (show 0 ≤ j by omega)
    obtain ⟨r, y1, -⟩ := e1 k (by omega)
    obtain ⟨r', z1, -⟩ := e1 m (by omega)
    have := List.all_eq_true.mp (List.all_eq_true.mp e.2 m (List.mem_range.mpr (by omega))) k (List.mem_range.mpr (by omega))
    rw [fc_v h y1, fc_v h z1]
    intro z
    rw [y1, z1, z, bne_self_eq_false] at this
    cases this
/-- references of the class's cells lie among them -/
def rfB (k : Int) (c : Nat × Nat) : Bool := ((rfT.getD c.1 []).all fun j => match fcv k j with
  | some r => decide (r ≤ 203)
  | none => false) && (if c.1 == 24 || c.1 == 25 || c.1 == 26 then (List.range c.2).all fun j => match fcv k j with
  | some r => decide (r ≤ 203)
  | none => false else true)
theorem rf_ok : ((List.range 203).all fun k => rfB (k + 1) (shA SH (k + 1))) = true := by decide +kernel
theorem rfm_i (h : FcOk N) : RfM 1 203 N := by
  intro k k1 k2 j hj
  have hk := List.all_eq_true.mp rf_ok (k - 1).toNat (List.mem_range.mpr (by omega))
  rw [show (((k - 1).toNat : Nat) : Int) + 1 = k by omega] at hk
  unfold rfB at hk
  rw [Bool.and_eq_true] at hk
  have fin : ∀ o : Option Int, fcv k j = o → (match o with | some r => decide (r ≤ 203) | none => false) = true → OKr 1 203 (N k j) := fun o ho hd => by
    cases o with
    | none => cases hd
    | some r =>
      rw [fc_v h ho]
      have := of_decide_eq_true hd
      unfold OKr
      omega
  rcases hj with z | ⟨z, z0, z1⟩
  · unfold rfF at z
    have := List.all_eq_true.mp hk.1 j (List.contains_iff_mem.mp z)
    exact fin _ rfl this
  · have h2 := hk.2
    rw [if_pos (by rcases z with z | z | z <;> rw [z] <;> rfl)] at h2
    obtain ⟨m, rfl⟩ := Int.eq_ofNat_of_zero_le z0
    have := List.all_eq_true.mp h2 m (List.mem_range.mpr (by omega))
    exact fin _ rfl this
theorem rfm_m (h : PtrM M) : RfM 204 250 M := by
  intro k k1 k2 j hj
  have hk : ∀ n : Nat, n < 47 → n ≠ 0 → 13 ≤ (shA SH (204 + (n : Int))).1 ∧ (shA SH (204 + (n : Int))).1 ≠ 24 ∧ (shA SH (204 + (n : Int))).1 ≠ 25 ∧ (shA SH (204 + (n : Int))).1 ≠ 26 := by decide +kernel
  by_cases q : k = 204
  · subst q
    rcases hj with z | ⟨z, -, -⟩
    · have e : (shA SH 204).1 = 12 := o204.2
      rw [e] at z
      have z : (mpT.map fun q => q.1).contains j = true := z
      obtain ⟨x, hx, rfl⟩ := List.mem_map.mp (List.contains_iff_mem.mp z)
      rw [h x hx]
      have : ∀ q ∈ mpT, 204 ≤ q.2 ∧ q.2 ≤ 250 := by decide
      exact Or.inr (this x hx)
    · rw [o204.2] at z
      omega
  · have := hk (k - 204).toNat (by omega) (by omega)
    rw [show (204 : Int) + ((k - 204).toNat : Int) = k by omega] at this
    exact absurd hj (nrfa rfl this)
theorem cls_i (h : FcOk N) : ClsS N 96 150 15 34 [] 0 (-1) L0 [] [] (fun _ => 0) [] := by
  have v := fun {k j v : Int} (e : fcv k j = some v) => fc_v h e
  refine ⟨⟨Or.inl ⟨rfl, rfl⟩, Or.inl ⟨rfl, rfl⟩⟩, ⟨⟨⟨Or.inl rfl, ?_, ⟨v (by decide +kernel), fun s a b => absurd b (by show ¬ s < ((0 : Nat) : Int); omega)⟩, ⟨v (by decide +kernel), fun i hi => absurd hi (Nat.not_lt_zero _), v (by decide +kernel), fun i hi => absurd hi (Nat.not_lt_zero _)⟩, ?_, wf_0⟩, ⟨⟨by decide, by decide +kernel, by decide +kernel⟩, v (by decide +kernel), v (by decide +kernel), by decide, by decide, fun i hi => absurd hi (Nat.not_lt_zero _)⟩, v (by decide +kernel), v (by decide +kernel), v (by decide +kernel), v (by decide +kernel)⟩, Or.inl rfl, ⟨⟨by decide, by decide +kernel, by decide +kernel⟩, v (by decide +kernel), v (by decide +kernel), by decide, by decide, fun i hi => absurd hi (Nat.not_lt_zero _)⟩, fun i a b => ⟨?_, Int.le_refl 0, (show (0 : Int) ≤ 999 by decide)⟩, ?_⟩, ?_, ?_, ?_, ⟨v (by decide +kernel), v (by decide +kernel), ?_, v (by decide +kernel), rpt_i h (by decide +kernel), rpt_i h (by decide +kernel)⟩, rpt_i h (by decide +kernel), rpt_i h (by decide +kernel), ⟨v (by decide +kernel), v (by decide +kernel), by decide, fun b hb => absurd hb List.not_mem_nil, fun j hj => absurd hj (Nat.not_lt_zero _), v (by decide +kernel), v (by decide +kernel)⟩, ⟨?_, ⟨v (by decide +kernel), by decide⟩, fun j hj => absurd hj (Nat.not_lt_zero _), rpt_i h (by decide +kernel)⟩⟩
  · exact ⟨v (by decide +kernel), v (by decide +kernel), v (by decide +kernel), v (by decide +kernel), v (by decide +kernel), v (by decide +kernel), v (by decide +kernel), v (by decide +kernel), v (by decide +kernel), v (by decide +kernel), v (by decide +kernel), v (by decide +kernel), v (by decide +kernel)⟩
  · exact ⟨v (by decide +kernel), v (by decide +kernel), v (by decide +kernel), v (by decide +kernel), v (by decide +kernel), v (by decide +kernel), v (by decide +kernel), v (by decide +kernel), v (by decide +kernel), v (by decide +kernel), v (by decide +kernel)⟩
  · have : i = 0 ∨ i = 1 ∨ i = 2 ∨ i = 3 ∨ i = 4 ∨ i = 5 := by omega
    rcases this with rfl | rfl | rfl | rfl | rfl | rfl <;> exact v (by decide +kernel)
  · exact ⟨v (by decide +kernel), v (by decide +kernel), v (by decide +kernel), v (by decide +kernel), v (by decide +kernel), v (by decide +kernel), v (by decide +kernel), v (by decide +kernel), v (by decide +kernel), v (by decide +kernel)⟩
  · refine ⟨v (by decide +kernel), v (by decide +kernel), v (by decide +kernel), v (by decide +kernel), fun s a b => ?_⟩
    have : s = 0 ∨ s = 1 ∨ s = 2 := by omega
    rcases this with rfl | rfl | rfl <;> exact ⟨v (by decide +kernel), v (by decide +kernel)⟩
  · exact ⟨v (by decide +kernel), v (by decide +kernel), v (by decide +kernel), v (by decide +kernel)⟩
  · exact ⟨v (by decide +kernel), v (by decide +kernel), v (by decide +kernel), v (by decide +kernel), v (by decide +kernel)⟩
  · exact ⟨v (by decide +kernel), v (by decide +kernel), v (by decide +kernel), v (by decide +kernel), v (by decide +kernel), v (by decide +kernel), v (by decide +kernel), v (by decide +kernel), v (by decide +kernel), v (by decide +kernel), v (by decide +kernel), v (by decide +kernel), v (by decide +kernel)⟩
  · exact ⟨v (by decide +kernel), v (by decide +kernel), v (by decide +kernel), v (by decide +kernel)⟩
theorem ptr_i (h : FcOk N) : PtrM N := fun x hx => by
  have : (mpT.all fun q => fcv 204 q.1 == some q.2) = true := by decide +kernel
  exact fc_v h (beq_iff_eq.mp (List.all_eq_true.mp this x hx))
/-- the model's constructor to its end: both objects as they begin -/
theorem both_i {Q : AV → Mem → Prop} (h : FcOk N) (hQ : ∀ M' : Mem, (∀ k : Int, k < 204 → M' k = N k) → ClsS M' 96 150 15 34 [] 0 (-1) L0 [] [] (fun _ => 0) [] → MdlS M' [] 0 (-1) L0 [] [] (fun _ => 0) [] → RfM 1 203 M' → Q (vI 0) M') : WR 176 386 [some (vR 204)] [] N Q := by
  have hp := ptr_i h
  refine tl_176_386 (m193 hp (fun M1 e1 f1 s1 => ?_))
  have hp1 : PtrM M1 := fun x hx => by
    have : ∀ q ∈ mpT, ¬ (14 ≤ q.1 ∧ q.1 ≤ 26) := by decide
    rw [f1 x.1 (this x hx)]
    exact hp x hx
  refine m210 hp1 s1 (fun F eF fF w56 w63 w84 q1 q2 q3 q4 q5 => ?_)
  have pF : PtrM F := fun x hx => by
    have : ∀ q ∈ mpT, ¬ (38 ≤ q.1 ∧ q.1 ≤ 47) ∧ q.1 ≠ 56 ∧ q.1 ≠ 63 ∧ q.1 ≠ 84 := by decide
    obtain ⟨y1, y2, y3, y4⟩ := this x hx
    rw [fF x.1 y1 y2 y3 y4]
    exact hp1 x hx
  have e : ∀ k : Int, k < 204 → F k = N k := fun k a => by rw [eF k (by omega) (by omega) (by omega), e1 k (by omega) (by omega)]
  refine hQ F e ((cls_i h).eq (fun k _ a => e k (by omega))) ⟨⟨⟨pF, q1, q2, q3, wf_0⟩, q4, ⟨w56, by decide, fun i hi => absurd hi (Nat.not_lt_zero _)⟩, q5⟩, Or.inl w84, ⟨?_, by decide, fun b hb => absurd hb List.not_mem_nil, fun j hj => absurd hj (Nat.not_lt_zero _), ?_, ?_⟩, w63, by decide, fun j hj => absurd hj (Nat.not_lt_zero _)⟩ (fun k k1 k2 j hj => by rw [e k (by omega)]; exact rfm_i h k k1 k2 j hj)
  · rw [fF 1 (by decide) (by decide) (by decide) (by decide), f1 1 (by decide)]
    exact fc_v h (by decide +kernel)
  · rw [fF 10 (by decide) (by decide) (by decide) (by decide), f1 10 (by decide)]
    exact fc_v h (by decide +kernel)
  · rw [fF 11 (by decide) (by decide) (by decide) (by decide), f1 11 (by decide)]
    exact fc_v h (by decide +kernel)
end IN
