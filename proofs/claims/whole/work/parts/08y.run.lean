/-! THE RUN: what the small machine ends with, the real one ends with. -/
theorem exA_k {op : Nat} {a b : Int} {nx : Nat} {ls : Lo} {st : List AV} {M : Mem} {sh : Sh} {w : (Nat × List AV × Nat × List AV) ⊕ AV} (h : exA op a b nx ls st M sh = some (.inr w)) : False := by
  unfold exA at h
  split at h <;> (repeat' split at h) <;> first | exact nomatch Option.some.inj h | cases h
theorem exB_k {op nx : Nat} {ls : Lo} {st : List AV} {M : Mem} {sh : Sh} {w : (Nat × List AV × Nat × List AV) ⊕ AV} (h : exB op nx ls st M sh = some (.inr w)) : False := by
  unfold exB at h
  repeat' split at h
  all_goals first | (obtain ⟨v, -, h⟩ := Option.bind_eq_some_iff.mp h; exact nomatch Option.some.inj h) | cases h
theorem exC_k {sw : List (Int × Nat)} {op : Nat} {a b : Int} {nx : Nat} {ls : Lo} {st : List AV} {M : Mem} {sh : Sh} {w : (Nat × List AV × Nat × List AV) ⊕ AV} (h : exC sw op a b nx ls st M sh = some (.inr w)) : False := by
  unfold exC at h
  split at h <;> (try split at h) <;> (try (split at h)) <;> first | exact nomatch Option.some.inj h | cases h
theorem exD_k {y op : Nat} {a b : Int} {nx : Nat} {ls : Lo} {st : List AV} {M : Mem} {sh : Sh} {w : (Nat × List AV × Nat × List AV) ⊕ AV} (h : exD y op a b nx ls st M sh = some (.inr w)) : False := by
  unfold exD at h
  split at h <;> (repeat' split at h) <;> first | exact nomatch Option.some.inj h | cases h
theorem exE_k {op : Nat} {a b : Int} {nx : Nat} {ls : Lo} {st : List AV} {M : Mem} {sh : Sh} {w : (Nat × List AV × Nat × List AV) ⊕ AV} (h : exE clO op a b nx ls st M sh = some (.inr w)) : (op = 80 ∨ op = 81 ∨ op = 82) ∧ ∃ q, w = .inl q := by
  unfold exE at h
  split at h
  · exact ⟨Or.inl rfl, by (repeat' split at h) <;> first | (cases h; exact ⟨_, rfl⟩) | cases h⟩
  · exact ⟨Or.inr (Or.inl rfl), by (repeat' split at h) <;> first | (cases h; exact ⟨_, rfl⟩) | cases h⟩
  · exact ⟨Or.inr (Or.inr rfl), by (repeat' split at h) <;> first | (cases h; exact ⟨_, rfl⟩) | cases h⟩
  all_goals (repeat' split at h) <;> first | exact nomatch Option.some.inj h | cases h
theorem ex_kind {sw : List (Int × Nat)} {y op : Nat} {a b : Int} {nx : Nat} {ls : Lo} {st : List AV} {M : Mem} {sh : Sh} {w : (Nat × List AV × Nat × List AV) ⊕ AV} (h : exStep clO sw y (op, a, b, nx) ls st M sh = some (.inr w)) : ((op = 80 ∨ op = 81 ∨ op = 82) ∧ ∃ q, w = .inl q) ∨ (90 ≤ op ∧ ∃ v, exR op a st = some v ∧ w = .inr v) := by
  unfold exStep at h
  split at h
  · exact (exA_k h).elim
  · split at h
    · exact (exB_k h).elim
    · split at h
      · exact (exC_k h).elim
      · split at h
        · exact (exD_k h).elim
        · split at h
          · exact Or.inl (exE_k h)
          · rename_i h9
            refine Or.inr ⟨Nat.not_lt.mp h9, ?_⟩
            cases hr : exR op a st with
            | none => rw [show exR (op, a, b, nx).1 (op, a, b, nx).2.1 st = none from hr] at h; cases h
            | some v => rw [show exR (op, a, b, nx).1 (op, a, b, nx).2.1 st = some v from hr] at h; cases h; exact ⟨v, rfl, rfl⟩
theorem exR_op {op : Nat} {a : Int} {st : List AV} {v : AV} (h : exR op a st = some v) : (op = 90 ∧ st = [] ∧ v = vI 0) ∨ (op = 91 ∧ ∃ x, st = [vI x] ∧ v = vI x ∧ (a = 1 ∨ (a = 2 ∧ 0 ≤ x ∧ x ≤ 1) ∨ (a = 5 ∧ -128 ≤ x ∧ x < 128) ∨ (a = 6 ∧ 0 ≤ x ∧ x < 65536))) ∨ (op = 92 ∧ ∃ x, st = [vL x] ∧ v = vL x) ∨ (op = 93 ∧ ∃ x, st = [vR x] ∧ v = vR x) := by
  unfold exR at h
  split at h
  · cases h; exact Or.inl ⟨rfl, rfl, rfl⟩
  · split at h
    · rename_i hg
      cases h
      exact Or.inr (Or.inl ⟨rfl, _, rfl, rfl, hg⟩)
    · cases h
  · cases h; exact Or.inr (Or.inr (Or.inl ⟨rfl, _, rfl, rfl⟩))
  · split at h
    · cases h; exact Or.inr (Or.inr (Or.inr ⟨rfl, _, rfl, rfl⟩))
    · cases h
  · cases h
theorem ins_90 {y pc : Nat} {a b : Int} {len : Nat} {ins : Instr} (hc : chkI y pc 90 a b len ins = true) : ins = .return_ ∧ rtK y = 0 := by
  cases ins with
  | return_ => simp only [chkI, Bool.and_eq_true, beq_iff_eq] at hc; exact ⟨rfl, hc.2⟩
  | invokestatic x =>
    exfalso
    simp only [chkI, Bool.and_eq_true, Bool.or_eq_true, beq_iff_eq] at hc
    rcases hc.2 with h | ⟨h, -⟩
    · omega
    · obtain ⟨e1, he, h⟩ := List.any_eq_true.mp h
      simp only [Bool.and_eq_true, beq_iff_eq] at h
      have hw := List.all_eq_true.mp mat_ok e1 he
      simp only [Bool.and_eq_true, Nat.ble_eq] at hw
      omega
  | _ => first | exact absurd hc Bool.false_ne_true | (exfalso; simp [chkI] at hc; done)
theorem ins_91 {y pc : Nat} {a b : Int} {len : Nat} {ins : Instr} (hc : chkI y pc 91 a b len ins = true) : ins = .ireturn ∧ (rtK y : Int) = a := by
  cases ins with
  | ireturn => simp only [chkI, Bool.and_eq_true, beq_iff_eq] at hc; exact ⟨rfl, hc.1.2⟩
  | invokestatic x =>
    exfalso
    simp only [chkI, Bool.and_eq_true, Bool.or_eq_true, beq_iff_eq] at hc
    rcases hc.2 with h | ⟨h, -⟩
    · omega
    · obtain ⟨e1, he, h⟩ := List.any_eq_true.mp h
      simp only [Bool.and_eq_true, beq_iff_eq] at h
      have hw := List.all_eq_true.mp mat_ok e1 he
      simp only [Bool.and_eq_true, Nat.ble_eq] at hw
      omega
  | _ => first | exact absurd hc Bool.false_ne_true | (exfalso; simp [chkI] at hc; done)
theorem ins_92 {y pc : Nat} {a b : Int} {len : Nat} {ins : Instr} (hc : chkI y pc 92 a b len ins = true) : ins = .lreturn ∧ rtK y = 3 := by
  cases ins with
  | lreturn => simp only [chkI, Bool.and_eq_true, beq_iff_eq] at hc; exact ⟨rfl, hc.2⟩
  | invokestatic x =>
    exfalso
    simp only [chkI, Bool.and_eq_true, Bool.or_eq_true, beq_iff_eq] at hc
    rcases hc.2 with h | ⟨h, -⟩
    · omega
    · obtain ⟨e1, he, h⟩ := List.any_eq_true.mp h
      simp only [Bool.and_eq_true, beq_iff_eq] at h
      have hw := List.all_eq_true.mp mat_ok e1 he
      simp only [Bool.and_eq_true, Nat.ble_eq] at hw
      omega
  | _ => first | exact absurd hc Bool.false_ne_true | (exfalso; simp [chkI] at hc; done)
theorem ins_93 {y pc : Nat} {a b : Int} {len : Nat} {ins : Instr} (hc : chkI y pc 93 a b len ins = true) : ins = .areturn ∧ rtK y = 4 := by
  cases ins with
  | areturn => simp only [chkI, Bool.and_eq_true, beq_iff_eq] at hc; exact ⟨rfl, hc.2⟩
  | invokestatic x =>
    exfalso
    simp only [chkI, Bool.and_eq_true, Bool.or_eq_true, beq_iff_eq] at hc
    rcases hc.2 with h | ⟨h, -⟩
    · omega
    · obtain ⟨e1, he, h⟩ := List.any_eq_true.mp h
      simp only [Bool.and_eq_true, beq_iff_eq] at h
      have hw := List.all_eq_true.mp mat_ok e1 he
      simp only [Bool.and_eq_true, Nat.ble_eq] at hw
      omega
  | _ => first | exact absurd hc Bool.false_ne_true | (exfalso; simp [chkI] at hc; done)
theorem len_90 {y pc op : Nat} {a b : Int} {len : Nat} {ins : Instr} (h : ins = .return_ ∨ ins = .ireturn ∨ ins = .lreturn ∨ ins = .areturn) (hc : chkI y pc op a b len ins = true) : len = 1 := by
  rcases h with rfl | rfl | rfl | rfl <;> (simp only [chkI, Bool.and_eq_true, beq_iff_eq] at hc; omega)
theorem ins_80 {y pc : Nat} {a b : Int} {len : Nat} {ins : Instr} (hc : chkI y pc 80 a b len ins = true) : ∃ x, ins = .invokevirtual x := by
  cases ins with
  | invokevirtual x => exact ⟨x, rfl⟩
  | invokestatic x =>
    exfalso
    simp only [chkI, Bool.and_eq_true, Bool.or_eq_true, beq_iff_eq] at hc
    rcases hc.2 with h | ⟨h, -⟩
    · omega
    · obtain ⟨e1, he, h⟩ := List.any_eq_true.mp h
      simp only [Bool.and_eq_true, beq_iff_eq] at h
      have hw := List.all_eq_true.mp mat_ok e1 he
      simp only [Bool.and_eq_true, Nat.ble_eq] at hw
      omega
  | _ => first | exact absurd hc Bool.false_ne_true | (exfalso; simp [chkI] at hc; done)
theorem ins_81 {y pc : Nat} {a b : Int} {len : Nat} {ins : Instr} (hc : chkI y pc 81 a b len ins = true) : ∃ x, ins = .invokespecial x := by
  cases ins with
  | invokespecial x => exact ⟨x, rfl⟩
  | invokestatic x =>
    exfalso
    simp only [chkI, Bool.and_eq_true, Bool.or_eq_true, beq_iff_eq] at hc
    rcases hc.2 with h | ⟨h, -⟩
    · omega
    · obtain ⟨e1, he, h⟩ := List.any_eq_true.mp h
      simp only [Bool.and_eq_true, beq_iff_eq] at h
      have hw := List.all_eq_true.mp mat_ok e1 he
      simp only [Bool.and_eq_true, Nat.ble_eq] at hw
      omega
  | _ => first | exact absurd hc Bool.false_ne_true | (exfalso; simp [chkI] at hc; done)
theorem ins_82 {y pc : Nat} {a b : Int} {len : Nat} {ins : Instr} (hc : chkI y pc 82 a b len ins = true) : ∃ x, ins = .invokestatic x := by
  cases ins with
  | invokestatic x => exact ⟨x, rfl⟩
  | _ => first | exact absurd hc Bool.false_ne_true | (exfalso; simp [chkI] at hc; done)
theorem mt_E {y x : Nat} {a : Int} (h : mtE y x a = true) : Cond.methodLink (onN (oxY y)) x (nmY a.toNat) ∈ lw_good := by
  unfold mtE at h
  obtain ⟨e1, he, h⟩ := List.any_eq_true.mp h
  simp only [Bool.and_eq_true, beq_iff_eq] at h
  obtain ⟨⟨⟨h1, h2⟩, h3⟩, h4⟩ := h
  have hw := List.all_eq_true.mp met_ok e1 he
  rw [if_pos (by rw [h4]; rfl)] at hw
  have hw := mb_in hw
  rw [h1, h2] at hw
  rw [← h3, Int.toNat_natCast]
  exact hw
theorem mt_N {y x : Nat} {a : Int} (h : mtN y x a = true) : ∃ e ∈ metT, e.1 = oxY y ∧ e.2.1 = x ∧ e.2.2.1 = a.toNat ∧ e.2.2.2.1 ≠ 0 := by
  unfold mtN at h
  obtain ⟨e1, he, h⟩ := List.any_eq_true.mp h
  simp only [Bool.and_eq_true, beq_iff_eq] at h
  obtain ⟨⟨⟨h1, h2⟩, h3⟩, h4⟩ := h
  exact ⟨e1, he, h1, h2, by omega, by omega⟩
theorem call_at {y pc : Nat} {i : Ins} (hy : y < 299) (h : cd y pc = some i) : (if i.1 == 80 then !isSt i.2.1.toNat && !isIni i.2.1.toNat && Nat.blt (clO i.2.1.toNat) 99 && Nat.blt i.2.1.toNat 298 else if i.1 == 81 then !isSt i.2.1.toNat && isIni i.2.1.toNat && Nat.blt (clO i.2.1.toNat) 13 && Nat.blt i.2.1.toNat 298 && rtK i.2.1.toNat == 0 && decide (rtY i.2.1.toNat = none) else if i.1 == 82 then isSt i.2.1.toNat && Nat.blt i.2.1.toNat 298 else true) = true :=
  List.all_eq_true.mp (List.all_eq_true.mp call_ok y (List.mem_range.mpr hy)) _ (cd_mem h)
theorem sim_ok : ∀ n, SimOk n
  | 0 => fun _ _ _ _ _ _ _ _ _ h => nomatch h
  | n + 1 => by
    intro y pc ls st M sh r M' sh' h p l e R s m args below meth c Γ E n0 k0 cx hn0 hk0 hc1 hc2
    have IH := sim_ok n
    unfold run at h
    split at h
    · cases h
    rename_i i hcd
    obtain ⟨hy, hchk⟩ := cd_chk hcd
    have hca := call_at hy hcd
    obtain ⟨op, a, b, nx⟩ := i
    by_cases h99 : op = 99
    · subst h99
      rw [show exStep clO (sws y pc) y (99, a, b, nx) ls st M sh = none from rfl] at h
      cases h
    unfold chk at hchk
    rw [if_neg (by simpa using h99)] at hchk
    split at hchk
    case _ =>
      rename_i q hd
      obtain ⟨ins, len⟩ := q
      simp only [Bool.and_eq_true, beq_iff_eq] at hchk
      obtain ⟨rfl, hc⟩ := hchk
      split at h
      · cases h
      · rename_i q hx
        obtain ⟨t1, e1⟩ := ex_mono hx
        obtain ⟨t2, e2⟩ := run_mono _ _ _ _ _ _ _ _ _ _ h
        have m1 := mono_le (sh := sh) (t := t1)
        have m2 := mono_le (sh := q.2.2.2.2) (t := t2)
        rw [← e1] at m1
        rw [← e2] at m2
        exact x_step cx hn0 hk0 ⟨by omega, by omega⟩ hd hc hx (IH _ _ _ _ _ _ _ _ _ h cx (by omega) (by omega) hc1 hc2)
      · rename_i q hx
        split at h
        · rename_i hlen
          split at h
          · cases h
          rename_i r1 hr1
          obtain ⟨t1, e1⟩ := run_mono _ _ _ _ _ _ _ r1.1 r1.2.1 r1.2.2 hr1
          obtain ⟨t2, e2⟩ := run_mono _ _ _ _ _ _ _ _ _ _ h
          have m1 := mono_le (sh := sh) (t := t1)
          have m2 := mono_le (sh := r1.2.2) (t := t2)
          rw [← e1] at m1
          rw [← e2] at m2
          have hk := IH _ _ _ _ _ _ _ _ _ h (l := l) (e := e) (below := below) cx (by omega) (by omega) hc1 hc2
          have hle := Nat.le_of_ble_eq_true hlen
          have hr1c : r1.2.2.length - n0 ≤ R.cells := by omega
          have hr1s : slotsOf r1.2.2 - k0 ≤ R.slots := by omega
          clear hlen
          rcases (ex_kind hx) with ⟨hop, -⟩ | ⟨-, v, -, hv⟩
          · rcases hop with rfl | rfl | rfl
            · obtain ⟨x, rfl⟩ := ins_80 hc
              simp only [chkI, Bool.and_eq_true, beq_iff_eq, decide_eq_true_eq] at hc
              obtain ⟨⟨⟨⟨⟨-, rfl⟩, hmt⟩, -⟩, hro⟩, hpar⟩ := hc
              replace hca : (!isSt a.toNat && !isIni a.toNat && Nat.blt (clO a.toNat) 99 && Nat.blt a.toNat 298) = true := hca
              simp only [Bool.and_eq_true, Bool.not_eq_true'] at hca
              obtain ⟨⟨⟨g1, g2⟩, g3⟩, g4⟩ := hca
              obtain ⟨r0, As, q1, q2, q3, q4, q5, q6, q7⟩ := inv_80 hx
              obtain ⟨z, as, nx, st'⟩ := q
              dsimp only at q1 q2 q3 q4 q7 hr1 hle hk
              subst q1 q2 q3
              exact x_call (rr := [vR r0]) (As := As) (x := x) (ins := .invokevirtual x) IH cx (Nat.blt_eq.mp g4) hle hr1 hn0 hk0 hr1c hr1s q4 q7 hro (by rw [hpar, q5]) (Or.inl ⟨rfl, g1, g2, mt_E hmt, r0, rfl, q6, Nat.blt_eq.mp g3⟩) hd hk
            · obtain ⟨x, rfl⟩ := ins_81 hc
              simp only [chkI, Bool.and_eq_true, Bool.or_eq_true, beq_iff_eq, decide_eq_true_eq] at hc
              obtain ⟨rfl, ⟨⟨⟨⟨-, hmt⟩, -⟩, hro⟩, hpar⟩ | ⟨⟨h83, -⟩, -⟩⟩ := hc
              · replace hca : (!isSt a.toNat && isIni a.toNat && Nat.blt (clO a.toNat) 13 && Nat.blt a.toNat 298 && rtK a.toNat == 0 && decide (rtY a.toNat = none)) = true := hca
                simp only [Bool.and_eq_true, Bool.not_eq_true', beq_iff_eq, decide_eq_true_eq] at hca
                obtain ⟨⟨⟨⟨⟨g1, g2⟩, g3⟩, g4⟩, g5⟩, g6⟩ := hca
                obtain ⟨r0, As, q1, q2, q3, q4, q5, q6, q7, q8⟩ := inv_81 hx
                obtain ⟨z, as, nx, st'⟩ := q
                dsimp only at q1 q2 q3 q4 q8 hr1 hle hk
                subst q1 q2 q3
                exact x_call (rr := [vR r0]) (As := As) (x := x) (ins := .invokespecial x) IH cx (Nat.blt_eq.mp g4) hle hr1 hn0 hk0 hr1c hr1s q4 q8 hro (by rw [hpar, q5]) (Or.inr (Or.inl ⟨rfl, g1, g2, hmt.elim (fun h => Or.inl (mt_E h)) (fun h => Or.inr (mt_N h)), g6, r0, rfl, q6⟩)) hd hk
              · omega
            · obtain ⟨x, rfl⟩ := ins_82 hc
              simp only [chkI, Bool.and_eq_true, Bool.or_eq_true, beq_iff_eq, decide_eq_true_eq] at hc
              obtain ⟨rfl, ⟨⟨⟨⟨-, hmt⟩, -⟩, hro⟩, hpar⟩ | ⟨hma, -⟩⟩ := hc
              · replace hca : (isSt a.toNat && Nat.blt a.toNat 298) = true := hca
                simp only [Bool.and_eq_true] at hca
                obtain ⟨g1, g4⟩ := hca
                obtain ⟨As, q1, q2, q3, q4, q5, q7⟩ := inv_82 hx
                obtain ⟨z, as, nx, st'⟩ := q
                dsimp only at q1 q2 q3 q4 q7 hr1 hle hk
                subst q1 q2 q3
                exact x_call (rr := []) (As := as) (x := x) (ins := .invokestatic x) IH cx (Nat.blt_eq.mp g4) hle hr1 hn0 hk0 hr1c hr1s q4 q7 hro (by rw [hpar, q5]) (Or.inr (Or.inr ⟨rfl, g1, mt_E hmt, rfl⟩)) hd hk
              · exfalso
                obtain ⟨e1, he, h⟩ := List.any_eq_true.mp hma
                simp only [Bool.and_eq_true, beq_iff_eq] at h
                have hw := List.all_eq_true.mp mat_ok e1 he
                simp only [Bool.and_eq_true, Nat.ble_eq] at hw
                omega
          · cases hv
        · cases h
      · rename_i v hx
        cases h
        rcases (ex_kind hx) with ⟨-, q, hq⟩ | ⟨-, v', hr, hv⟩
        · cases hq
        cases hv
        rcases exR_op hr with ⟨rfl, rfl, rfl⟩ | ⟨rfl, x, rfl, rfl, hg⟩ | ⟨rfl, x, rfl, rfl⟩ | ⟨rfl, x, rfl, rfl⟩
        · obtain ⟨rfl, hk⟩ := ins_90 hc
          obtain rfl := len_90 (Or.inl rfl) hc
          exact x_vret cx hy hk hd
        · obtain ⟨rfl, hk⟩ := ins_91 hc
          obtain rfl := len_90 (Or.inr (Or.inl rfl)) hc
          exact x_iret cx hy hk hg hd
        · obtain ⟨rfl, hk⟩ := ins_92 hc
          obtain rfl := len_90 (Or.inr (Or.inr (Or.inl rfl))) hc
          exact x_lret cx hy hk hd
        · obtain ⟨rfl, hk⟩ := ins_93 hc
          obtain rfl := len_90 (Or.inr (Or.inr (Or.inr rfl))) hc
          exact x_aret cx hy hk hd
    case _ => cases hchk
