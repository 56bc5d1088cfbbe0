/-! THE STEPS, part six: one step of the small machine, calls aside. -/
theorem ft_ty {a k : Nat} (ha : a < 13) (hk : k < nF a) : (ftC a k = 0 → clTy a k = .int) ∧ (ftC a k = 1 → clTy a k = .boolean) ∧ (ftC a k = 2 → clTy a k = .long) ∧ (ftC a k = 3 → (∃ n, clTy a k = .object n) ∨ ∃ t, clTy a k = .array t) := by
  have h4 := List.all_eq_true.mp (List.all_eq_true.mp cls_four a (List.mem_range.mpr ha)) k (List.mem_range.mpr hk)
  unfold ftC
  generalize clTy a k = T at h4 ⊢
  cases T <;> first | exact absurd h4 Bool.false_ne_true | (refine ⟨fun h => ?_, fun h => ?_, fun h => ?_, fun h => ?_⟩ <;> first | rfl | exact Or.inl ⟨_, rfl⟩ | exact Or.inr ⟨_, rfl⟩ | exact nomatch h)
theorem nar_rf (ty : FieldType) (h : (∃ n, ty = .object n) ∨ ∃ t, ty = .array t) (r : Option Nat) : narrow ty (va_rf r) = va_rf r ∧ fits ty (va_rf r) = true := by
  rcases h with ⟨n, rfl⟩ | ⟨t, rfl⟩ <;> cases r <;> exact ⟨rfl, rfl⟩
section SIM
variable {p : Program} {l : Launch} {e : Env} {R : Room} {s : State} {m : MethodId} {args : Array Value} {below : List Frame} {meth : Method} {c : Code} {Q : State → Prop}
variable {Γ : Gm} {E : Em} {y n0 k0 pc : Nat} {ls : Lo} {st : List AV} {M : Mem} {sh : Sh}
theorem ne_80 {sw : List (Int × Nat)} {a b : Int} {nx : Nat} (q : Nat × Lo × List AV × Mem × Sh) : exStep clO sw y (80, a, b, nx) ls st M sh ≠ some (.inl q) := by
  intro h
  replace h : exE clO 80 a b nx ls st M sh = some (.inl q) := h
  simp only [exE] at h
  split at h
  · split at h <;> cases h
  · cases h
theorem ne_81 {sw : List (Int × Nat)} {a b : Int} {nx : Nat} (q : Nat × Lo × List AV × Mem × Sh) : exStep clO sw y (81, a, b, nx) ls st M sh ≠ some (.inl q) := by
  intro h
  replace h : exE clO 81 a b nx ls st M sh = some (.inl q) := h
  simp only [exE] at h
  split at h
  · split at h <;> cases h
  · cases h
theorem ne_82 {sw : List (Int × Nat)} {a b : Int} {nx : Nat} (q : Nat × Lo × List AV × Mem × Sh) : exStep clO sw y (82, a, b, nx) ls st M sh ≠ some (.inl q) := by
  intro h
  replace h : exE clO 82 a b nx ls st M sh = some (.inl q) := h
  simp only [exE] at h
  split at h <;> cases h
theorem ne_90 {sw : List (Int × Nat)} {op : Nat} {a b : Int} {nx : Nat} (h90 : 90 ≤ op) (q : Nat × Lo × List AV × Mem × Sh) : exStep clO sw y (op, a, b, nx) ls st M sh ≠ some (.inl q) := by
  intro h
  unfold exStep at h
  rw [if_neg (by show ¬ op < 15; omega), if_neg (by show ¬ op < 40; omega), if_neg (by show ¬ op < 48; omega), if_neg (by show ¬ op < 80; omega), if_neg (by show ¬ op < 90; omega)] at h
  cases hr : exR op a st with
  | none => rw [show exR (op, a, b, nx).1 (op, a, b, nx).2.1 st = none from hr] at h; cases h
  | some w => rw [show exR (op, a, b, nx).1 (op, a, b, nx).2.1 st = some w from hr] at h; cases h
theorem y_getfield {x : Nat} {op len : Nat} {a b : Int} {q : Nat × Lo × List AV × Mem × Sh} (cx : Cx p R s m args meth c Γ E y) (hn0 : n0 ≤ sh.length) (hk0 : k0 ≤ slotsOf sh) (hcap : q.2.2.2.2.length - n0 ≤ R.cells ∧ slotsOf q.2.2.2.2 - k0 ≤ R.slots) (hd : decode (bcY y) pc = .ok (.getfield x, len)) (hc : chkI y pc op a b len (.getfield x) = true) (hex : exStep clO (sws y pc) y (op, a, b, pc + len) ls st M sh = some (.inl q)) (k : SW p l e R s m args below meth c Γ E y n0 k0 Q q.1 q.2.1 q.2.2.1 q.2.2.2.1 q.2.2.2.2) : SW p l e R s m args below meth c Γ E y n0 k0 Q pc ls st M sh := by
  simp only [chkI, Bool.and_eq_true, Bool.or_eq_true, beq_iff_eq, decide_eq_true_eq] at hc
  obtain ⟨rfl, ⟨h, hf⟩ | ⟨⟨rfl, ho⟩, hz⟩⟩ := hc
  · obtain ⟨ca, cb, rfl, rfl, hca, hcb, hlink⟩ := fd_of hf
    rw [Int.toNat_natCast, Int.toNat_natCast] at h
    rcases h with (⟨rfl, ht⟩ | ⟨rfl, ht⟩) | ⟨rfl, ht⟩
    · rcases st with _ | ⟨v1 | v1 | v1, st⟩
      · exact nomatch (show (none : Option Nx) = some (.inl q) from hex)
      · exact nomatch (show (none : Option Nx) = some (.inl q) from hex)
      · exact nomatch (show (none : Option Nx) = some (.inl q) from hex)
      · replace hex : (if 0 < v1 ∧ (shA sh v1).1 = ((ca : Nat) : Int).toNat then goN (pc + 3) ls (vI (M v1 (cb : Nat)) :: st) M sh else none) = some (.inl q) := hex
        split at hex
        · rename_i hg
          obtain rfl := Sum.inl.inj (Option.some.inj hex)
          exact x_get cx hca hcb hlink hg.1 (by rw [hg.2, Int.toNat_natCast]) hd (by unfold fdV; rw [if_pos (Nat.le_of_ble_eq_true ht)]; rfl) k
        · exact nomatch hex
    · rcases st with _ | ⟨v1 | v1 | v1, st⟩
      · exact nomatch (show (none : Option Nx) = some (.inl q) from hex)
      · exact nomatch (show (none : Option Nx) = some (.inl q) from hex)
      · exact nomatch (show (none : Option Nx) = some (.inl q) from hex)
      · replace hex : (if 0 < v1 ∧ (shA sh v1).1 = ((ca : Nat) : Int).toNat then goN (pc + 3) ls (vL (M v1 (cb : Nat)) :: st) M sh else none) = some (.inl q) := hex
        split at hex
        · rename_i hg
          obtain rfl := Sum.inl.inj (Option.some.inj hex)
          exact x_get cx hca hcb hlink hg.1 (by rw [hg.2, Int.toNat_natCast]) hd (by rw [ht]; rfl) k
        · exact nomatch hex
    · rcases st with _ | ⟨v1 | v1 | v1, st⟩
      · exact nomatch (show (none : Option Nx) = some (.inl q) from hex)
      · exact nomatch (show (none : Option Nx) = some (.inl q) from hex)
      · exact nomatch (show (none : Option Nx) = some (.inl q) from hex)
      · replace hex : (if 0 < v1 ∧ (shA sh v1).1 = ((ca : Nat) : Int).toNat then goN (pc + 3) ls (vR (M v1 (cb : Nat)) :: st) M sh else none) = some (.inl q) := hex
        split at hex
        · rename_i hg
          obtain rfl := Sum.inl.inj (Option.some.inj hex)
          exact x_get cx hca hcb hlink hg.1 (by rw [hg.2, Int.toNat_natCast]) hd (by rw [ht]; rfl) k
        · exact nomatch hex
  · rcases hz with ⟨rfl, rfl⟩ | ⟨rfl, rfl⟩
    · rcases st with _ | ⟨v1 | v1 | v1, st⟩
      · exact nomatch (show (none : Option Nx) = some (.inl q) from hex)
      · exact nomatch (show (none : Option Nx) = some (.inl q) from hex)
      · exact nomatch (show (none : Option Nx) = some (.inl q) from hex)
      · replace hex : (if (shA sh v1).1 = 40 then goN (pc + 3) ls (vR (v1 - 100) :: st) M sh else none) = some (.inl q) := hex
        split at hex
        · rename_i hg
          obtain rfl := Sum.inl.inj (Option.some.inj hex)
          exact x_sval cx ho hg hd k
        · exact nomatch hex
    · rcases st with _ | ⟨v1 | v1 | v1, st⟩
      · exact nomatch (show (none : Option Nx) = some (.inl q) from hex)
      · exact nomatch (show (none : Option Nx) = some (.inl q) from hex)
      · exact nomatch (show (none : Option Nx) = some (.inl q) from hex)
      · replace hex : (if (shA sh v1).1 = 40 then goN (pc + 3) ls (vI 0 :: st) M sh else none) = some (.inl q) := hex
        split at hex
        · rename_i hg
          obtain rfl := Sum.inl.inj (Option.some.inj hex)
          exact x_scod cx ho hg hd k
        · exact nomatch hex
theorem y_putfield {x : Nat} {op len : Nat} {a b : Int} {q : Nat × Lo × List AV × Mem × Sh} (cx : Cx p R s m args meth c Γ E y) (hn0 : n0 ≤ sh.length) (hk0 : k0 ≤ slotsOf sh) (hcap : q.2.2.2.2.length - n0 ≤ R.cells ∧ slotsOf q.2.2.2.2 - k0 ≤ R.slots) (hd : decode (bcY y) pc = .ok (.putfield x, len)) (hc : chkI y pc op a b len (.putfield x) = true) (hex : exStep clO (sws y pc) y (op, a, b, pc + len) ls st M sh = some (.inl q)) (k : SW p l e R s m args below meth c Γ E y n0 k0 Q q.1 q.2.1 q.2.2.1 q.2.2.2.1 q.2.2.2.2) : SW p l e R s m args below meth c Γ E y n0 k0 Q pc ls st M sh := by
  simp only [chkI, Bool.and_eq_true, Bool.or_eq_true, beq_iff_eq, decide_eq_true_eq] at hc
  obtain ⟨⟨rfl, h, hf⟩, hfin⟩ := hc
  obtain ⟨ca, cb, rfl, rfl, hca, hcb, hlink⟩ := fd_of hf
  rw [Int.toNat_natCast, Int.toNat_natCast] at h hfin
  have hfi : (clTb ca cb).2.2.2 = true → isIni y = true ∧ oxY y = ca := by
    intro h1
    rcases hfin with h2 | ⟨h2, h3⟩
    · rw [h1] at h2; exact absurd h2 (by decide)
    · exact ⟨h2, by omega⟩
  obtain ⟨t0, t1, t2, t3⟩ := ft_ty hca hcb
  rcases h with ((⟨rfl, ht⟩ | ⟨rfl, ht⟩) | ⟨rfl, ht⟩) | ⟨rfl, ht⟩
  · rcases st with _ | ⟨v1 | v1 | v1, st⟩
    · exact nomatch (show (none : Option Nx) = some (.inl q) from hex)
    · rcases st with _ | ⟨v2 | v2 | v2, st⟩
      · exact nomatch (show (none : Option Nx) = some (.inl q) from hex)
      · exact nomatch (show (none : Option Nx) = some (.inl q) from hex)
      · exact nomatch (show (none : Option Nx) = some (.inl q) from hex)
      · replace hex : (if 0 < v2 ∧ (shA sh v2).1 = ((ca : Nat) : Int).toNat then goN (pc + 3) ls st (upM M v2 (cb : Nat) v1) sh else none) = some (.inl q) := hex
        split at hex
        · rename_i hg
          obtain rfl := Sum.inl.inj (Option.some.inj hex)
          exact x_put cx hca hcb hlink hg.1 (by rw [hg.2, Int.toNat_natCast]) hd (z := v1) (by rw [ht]; rfl) (by rw [t0 ht]; rfl) (by rw [t0 ht]; rfl) hfi k
        · exact nomatch hex
    · exact nomatch (show (none : Option Nx) = some (.inl q) from hex)
    · exact nomatch (show (none : Option Nx) = some (.inl q) from hex)
  · rcases st with _ | ⟨v1 | v1 | v1, st⟩
    · exact nomatch (show (none : Option Nx) = some (.inl q) from hex)
    · rcases st with _ | ⟨v2 | v2 | v2, st⟩
      · exact nomatch (show (none : Option Nx) = some (.inl q) from hex)
      · exact nomatch (show (none : Option Nx) = some (.inl q) from hex)
      · exact nomatch (show (none : Option Nx) = some (.inl q) from hex)
      · replace hex : (if 0 < v2 ∧ (shA sh v2).1 = ((ca : Nat) : Int).toNat ∧ (v1 = 0 ∨ v1 = 1) then goN (pc + 3) ls st (upM M v2 (cb : Nat) v1) sh else none) = some (.inl q) := hex
        split at hex
        · rename_i hg
          obtain rfl := Sum.inl.inj (Option.some.inj hex)
          exact x_put cx hca hcb hlink hg.1 (by rw [hg.2.1, Int.toNat_natCast]) hd (z := v1) (by rw [ht]; rfl) (by rw [t1 ht]; rcases hg.2.2 with rfl | rfl <;> rfl) (by rw [t1 ht]; rcases hg.2.2 with rfl | rfl <;> rfl) hfi k
        · exact nomatch hex
    · exact nomatch (show (none : Option Nx) = some (.inl q) from hex)
    · exact nomatch (show (none : Option Nx) = some (.inl q) from hex)
  · rcases st with _ | ⟨v1 | v1 | v1, st⟩
    · exact nomatch (show (none : Option Nx) = some (.inl q) from hex)
    · exact nomatch (show (none : Option Nx) = some (.inl q) from hex)
    · rcases st with _ | ⟨v2 | v2 | v2, st⟩
      · exact nomatch (show (none : Option Nx) = some (.inl q) from hex)
      · exact nomatch (show (none : Option Nx) = some (.inl q) from hex)
      · exact nomatch (show (none : Option Nx) = some (.inl q) from hex)
      · replace hex : (if 0 < v2 ∧ (shA sh v2).1 = ((ca : Nat) : Int).toNat then goN (pc + 3) ls st (upM M v2 (cb : Nat) v1) sh else none) = some (.inl q) := hex
        split at hex
        · rename_i hg
          obtain rfl := Sum.inl.inj (Option.some.inj hex)
          exact x_put cx hca hcb hlink hg.1 (by rw [hg.2, Int.toNat_natCast]) hd (z := v1) (by rw [ht]; rfl) (by rw [t2 ht]; rfl) (by rw [t2 ht]; rfl) hfi k
        · exact nomatch hex
    · exact nomatch (show (none : Option Nx) = some (.inl q) from hex)
  · rcases st with _ | ⟨v1 | v1 | v1, st⟩
    · exact nomatch (show (none : Option Nx) = some (.inl q) from hex)
    · exact nomatch (show (none : Option Nx) = some (.inl q) from hex)
    · exact nomatch (show (none : Option Nx) = some (.inl q) from hex)
    · rcases st with _ | ⟨v2 | v2 | v2, st⟩
      · exact nomatch (show (none : Option Nx) = some (.inl q) from hex)
      · exact nomatch (show (none : Option Nx) = some (.inl q) from hex)
      · exact nomatch (show (none : Option Nx) = some (.inl q) from hex)
      · replace hex : (if 0 < v2 ∧ (shA sh v2).1 = ((ca : Nat) : Int).toNat ∧ 0 ≤ v1 then goN (pc + 3) ls st (upM M v2 (cb : Nat) v1) sh else none) = some (.inl q) := hex
        split at hex
        · rename_i hg
          obtain rfl := Sum.inl.inj (Option.some.inj hex)
          exact x_put cx hca hcb hlink hg.1 (by rw [hg.2.1, Int.toNat_natCast]) hd (z := v1) (by rw [ht]; rfl) (nar_rf _ (t3 ht) _).1 (nar_rf _ (t3 ht) _).2 hfi k
        · exact nomatch hex
theorem y_getstatic {x : Nat} {op len : Nat} {a b : Int} {q : Nat × Lo × List AV × Mem × Sh} (cx : Cx p R s m args meth c Γ E y) (hn0 : n0 ≤ sh.length) (hk0 : k0 ≤ slotsOf sh) (hcap : q.2.2.2.2.length - n0 ≤ R.cells ∧ slotsOf q.2.2.2.2 - k0 ≤ R.slots) (hd : decode (bcY y) pc = .ok (.getstatic x, len)) (hc : chkI y pc op a b len (.getstatic x) = true) (hex : exStep clO (sws y pc) y (op, a, b, pc + len) ls st M sh = some (.inl q)) (k : SW p l e R s m args below meth c Γ E y n0 k0 Q q.1 q.2.1 q.2.2.1 q.2.2.2.1 q.2.2.2.2) : SW p l e R s m args below meth c Γ E y n0 k0 Q pc ls st M sh := by
  simp only [chkI, Bool.and_eq_true, Bool.or_eq_true, beq_iff_eq, decide_eq_true_eq] at hc
  obtain ⟨rfl, (⟨⟨rfl, ho⟩, hx⟩ | ⟨rfl, hc⟩) | ⟨rfl, hc⟩⟩ := hc
  · obtain rfl := Sum.inl.inj (Option.some.inj hex)
    exact x_getF cx ho hx hd k
  · obtain ⟨e1, he, h⟩ := List.any_eq_true.mp hc
    simp only [Bool.and_eq_true, beq_iff_eq, decide_eq_true_eq, Bool.not_eq_true', decide_eq_false_iff_not] at h
    obtain ⟨⟨⟨h1, h2⟩, h3⟩, h4⟩ := h
    have hw := mb_in (List.all_eq_true.mp gs_ok e1 he)
    have hl := Nat.blt_eq.mp (List.all_eq_true.mp gs_lt e1 he)
    rw [h1, h2] at hw
    obtain rfl := Sum.inl.inj (Option.some.inj hex)
    exact x_gets (v := .int 0) cx hl hw (by unfold stV; rw [if_pos h3, h4]; rfl) hd k
  · obtain ⟨e1, he, h⟩ := List.any_eq_true.mp hc
    simp only [Bool.and_eq_true, beq_iff_eq, decide_eq_true_eq, Bool.not_eq_true', decide_eq_false_iff_not] at h
    obtain ⟨⟨⟨h1, h2⟩, h3⟩, h4⟩ := h
    have hw := mb_in (List.all_eq_true.mp gs_ok e1 he)
    have hl := Nat.blt_eq.mp (List.all_eq_true.mp gs_lt e1 he)
    rw [h1, h2] at hw
    obtain rfl := Sum.inl.inj (Option.some.inj hex)
    exact x_gets (v := .int 0) cx hl hw (by unfold stV; rw [if_neg h3, h4]; rfl) hd k
theorem y_arraylength {op len : Nat} {a b : Int} {q : Nat × Lo × List AV × Mem × Sh} (cx : Cx p R s m args meth c Γ E y) (hn0 : n0 ≤ sh.length) (hk0 : k0 ≤ slotsOf sh) (hcap : q.2.2.2.2.length - n0 ≤ R.cells ∧ slotsOf q.2.2.2.2 - k0 ≤ R.slots) (hd : decode (bcY y) pc = .ok (.arraylength, len)) (hc : chkI y pc op a b len (.arraylength) = true) (hex : exStep clO (sws y pc) y (op, a, b, pc + len) ls st M sh = some (.inl q)) (k : SW p l e R s m args below meth c Γ E y n0 k0 Q q.1 q.2.1 q.2.2.1 q.2.2.2.1 q.2.2.2.2) : SW p l e R s m args below meth c Γ E y n0 k0 Q pc ls st M sh := by
  simp only [chkI, Bool.and_eq_true, Bool.or_eq_true, beq_iff_eq, decide_eq_true_eq] at hc
  obtain ⟨rfl, rfl⟩ := hc
  rcases st with _ | ⟨v1 | v1 | v1, st⟩
  · exact nomatch (show (none : Option Nx) = some (.inl q) from hex)
  · exact nomatch (show (none : Option Nx) = some (.inl q) from hex)
  · exact nomatch (show (none : Option Nx) = some (.inl q) from hex)
  · replace hex : (if v1 = -2000 then (if y = LAWN then goN (pc + 1) ls (vI (M v1 (-1)) :: st) M sh else none) else if 20 ≤ (shA sh v1).1 ∧ (shA sh v1).1 ≤ 41 ∧ (shA sh v1).1 ≠ 40 then goN (pc + 1) ls (vI (shA sh v1).2 :: st) M sh else none) = some (.inl q) := hex
    split at hex
    · rename_i hv
      subst hv
      split at hex
      · obtain rfl := Sum.inl.inj (Option.some.inj hex)
        exact x_plen cx hd k
      · exact nomatch hex
    · split at hex
      · rename_i hg
        obtain rfl := Sum.inl.inj (Option.some.inj hex)
        by_cases h41 : (shA sh v1).1 = 41
        · exact x_slen cx h41 hd k
        · intro H locs lsA hX hS hL
          have hp := sh_pos (rfl : (shA sh v1).1 = (shA sh v1).1) hg.2.2 h41 (by omega)
          have hkd := sh_kind hX.2.2 hp
          exact x_alen cx hp hg.1 (by omega) hd k H locs lsA hX hS hL
      · exact nomatch hex
theorem y_iaload {op len : Nat} {a b : Int} {q : Nat × Lo × List AV × Mem × Sh} (cx : Cx p R s m args meth c Γ E y) (hn0 : n0 ≤ sh.length) (hk0 : k0 ≤ slotsOf sh) (hcap : q.2.2.2.2.length - n0 ≤ R.cells ∧ slotsOf q.2.2.2.2 - k0 ≤ R.slots) (hd : decode (bcY y) pc = .ok (.iaload, len)) (hc : chkI y pc op a b len (.iaload) = true) (hex : exStep clO (sws y pc) y (op, a, b, pc + len) ls st M sh = some (.inl q)) (k : SW p l e R s m args below meth c Γ E y n0 k0 Q q.1 q.2.1 q.2.2.1 q.2.2.2.1 q.2.2.2.2) : SW p l e R s m args below meth c Γ E y n0 k0 Q pc ls st M sh := by
  simp only [chkI, Bool.and_eq_true, Bool.or_eq_true, beq_iff_eq, decide_eq_true_eq] at hc
  obtain ⟨rfl, rfl⟩ := hc
  rcases st with _ | ⟨v1 | v1 | v1, st⟩
  · exact nomatch (show (none : Option Nx) = some (.inl q) from hex)
  · rcases st with _ | ⟨v2 | v2 | v2, st⟩
    · exact nomatch (show (none : Option Nx) = some (.inl q) from hex)
    · exact nomatch (show (none : Option Nx) = some (.inl q) from hex)
    · exact nomatch (show (none : Option Nx) = some (.inl q) from hex)
    · replace hex : (if v2 = -2000 then (if y = LAWN ∧ 0 ≤ v1 ∧ v1 < M v2 (-1) then goN (pc + 1) ls (vI (M v2 v1) :: st) M sh else none) else if (shA sh v2).1 = 20 ∧ 0 ≤ v1 ∧ v1 < (shA sh v2).2 then goN (pc + 1) ls (vI (M v2 v1) :: st) M sh else none) = some (.inl q) := hex
      split at hex
      · rename_i hv
        subst hv
        split at hex
        · rename_i hg
          obtain rfl := Sum.inl.inj (Option.some.inj hex)
          exact x_pald cx hg.2.1 hg.2.2 hd k
        · exact nomatch hex
      · split at hex
        · rename_i hg
          obtain rfl := Sum.inl.inj (Option.some.inj hex)
          exact x_iald cx (sh_pos hg.1 (by decide) (by decide) (by decide)) hg.1 hg.2.1 hg.2.2 hd k
        · exact nomatch hex
  · exact nomatch (show (none : Option Nx) = some (.inl q) from hex)
  · exact nomatch (show (none : Option Nx) = some (.inl q) from hex)
theorem y_iastore {op len : Nat} {a b : Int} {q : Nat × Lo × List AV × Mem × Sh} (cx : Cx p R s m args meth c Γ E y) (hn0 : n0 ≤ sh.length) (hk0 : k0 ≤ slotsOf sh) (hcap : q.2.2.2.2.length - n0 ≤ R.cells ∧ slotsOf q.2.2.2.2 - k0 ≤ R.slots) (hd : decode (bcY y) pc = .ok (.iastore, len)) (hc : chkI y pc op a b len (.iastore) = true) (hex : exStep clO (sws y pc) y (op, a, b, pc + len) ls st M sh = some (.inl q)) (k : SW p l e R s m args below meth c Γ E y n0 k0 Q q.1 q.2.1 q.2.2.1 q.2.2.2.1 q.2.2.2.2) : SW p l e R s m args below meth c Γ E y n0 k0 Q pc ls st M sh := by
  simp only [chkI, Bool.and_eq_true, Bool.or_eq_true, beq_iff_eq, decide_eq_true_eq] at hc
  obtain ⟨rfl, rfl⟩ := hc
  rcases st with _ | ⟨v1 | v1 | v1, st⟩
  · exact nomatch (show (none : Option Nx) = some (.inl q) from hex)
  · rcases st with _ | ⟨v2 | v2 | v2, st⟩
    · exact nomatch (show (none : Option Nx) = some (.inl q) from hex)
    · rcases st with _ | ⟨v3 | v3 | v3, st⟩
      · exact nomatch (show (none : Option Nx) = some (.inl q) from hex)
      · exact nomatch (show (none : Option Nx) = some (.inl q) from hex)
      · exact nomatch (show (none : Option Nx) = some (.inl q) from hex)
      · replace hex : (if (shA sh v3).1 = 20 ∧ 0 ≤ v2 ∧ v2 < (shA sh v3).2 then goN (pc + 1) ls st (upM M v3 v2 v1) sh else none) = some (.inl q) := hex
        split at hex
        · rename_i hg
          obtain rfl := Sum.inl.inj (Option.some.inj hex)
          exact x_iast cx (sh_pos hg.1 (by decide) (by decide) (by decide)) hg.1 hg.2.1 hg.2.2 hd k
        · exact nomatch hex
    · exact nomatch (show (none : Option Nx) = some (.inl q) from hex)
    · exact nomatch (show (none : Option Nx) = some (.inl q) from hex)
  · exact nomatch (show (none : Option Nx) = some (.inl q) from hex)
  · exact nomatch (show (none : Option Nx) = some (.inl q) from hex)
theorem y_baload {op len : Nat} {a b : Int} {q : Nat × Lo × List AV × Mem × Sh} (cx : Cx p R s m args meth c Γ E y) (hn0 : n0 ≤ sh.length) (hk0 : k0 ≤ slotsOf sh) (hcap : q.2.2.2.2.length - n0 ≤ R.cells ∧ slotsOf q.2.2.2.2 - k0 ≤ R.slots) (hd : decode (bcY y) pc = .ok (.baload, len)) (hc : chkI y pc op a b len (.baload) = true) (hex : exStep clO (sws y pc) y (op, a, b, pc + len) ls st M sh = some (.inl q)) (k : SW p l e R s m args below meth c Γ E y n0 k0 Q q.1 q.2.1 q.2.2.1 q.2.2.2.1 q.2.2.2.2) : SW p l e R s m args below meth c Γ E y n0 k0 Q pc ls st M sh := by
  simp only [chkI, Bool.and_eq_true, Bool.or_eq_true, beq_iff_eq, decide_eq_true_eq] at hc
  obtain ⟨rfl, rfl⟩ := hc
  rcases st with _ | ⟨v1 | v1 | v1, st⟩
  · exact nomatch (show (none : Option Nx) = some (.inl q) from hex)
  · rcases st with _ | ⟨v2 | v2 | v2, st⟩
    · exact nomatch (show (none : Option Nx) = some (.inl q) from hex)
    · exact nomatch (show (none : Option Nx) = some (.inl q) from hex)
    · exact nomatch (show (none : Option Nx) = some (.inl q) from hex)
    · replace hex : (if ((shA sh v2).1 = 21 ∨ (shA sh v2).1 = 22) ∧ 0 ≤ v1 ∧ v1 < (shA sh v2).2 then goN (pc + 1) ls (vI (M v2 v1) :: st) M sh
        else if (shA sh v2).1 = 41 ∧ 0 ≤ v1 ∧ v1 < (shA sh v2).2 then goN (pc + 1) ls (vI (strB (-101 - v2) v1) :: st) M sh else none) = some (.inl q) := hex
      split at hex
      · rename_i hg
        obtain rfl := Sum.inl.inj (Option.some.inj hex)
        exact x_bald cx (by rcases hg.1 with h | h <;> exact sh_pos h (by decide) (by decide) (by decide)) hg.1 hg.2.1 hg.2.2 hd k
      · split at hex
        · rename_i hg
          obtain rfl := Sum.inl.inj (Option.some.inj hex)
          exact x_sald cx hg.1 hg.2.1 hg.2.2 hd k
        · exact nomatch hex
  · exact nomatch (show (none : Option Nx) = some (.inl q) from hex)
  · exact nomatch (show (none : Option Nx) = some (.inl q) from hex)
theorem y_bastore {op len : Nat} {a b : Int} {q : Nat × Lo × List AV × Mem × Sh} (cx : Cx p R s m args meth c Γ E y) (hn0 : n0 ≤ sh.length) (hk0 : k0 ≤ slotsOf sh) (hcap : q.2.2.2.2.length - n0 ≤ R.cells ∧ slotsOf q.2.2.2.2 - k0 ≤ R.slots) (hd : decode (bcY y) pc = .ok (.bastore, len)) (hc : chkI y pc op a b len (.bastore) = true) (hex : exStep clO (sws y pc) y (op, a, b, pc + len) ls st M sh = some (.inl q)) (k : SW p l e R s m args below meth c Γ E y n0 k0 Q q.1 q.2.1 q.2.2.1 q.2.2.2.1 q.2.2.2.2) : SW p l e R s m args below meth c Γ E y n0 k0 Q pc ls st M sh := by
  simp only [chkI, Bool.and_eq_true, Bool.or_eq_true, beq_iff_eq, decide_eq_true_eq] at hc
  obtain ⟨rfl, rfl⟩ := hc
  rcases st with _ | ⟨v1 | v1 | v1, st⟩
  · exact nomatch (show (none : Option Nx) = some (.inl q) from hex)
  · rcases st with _ | ⟨v2 | v2 | v2, st⟩
    · exact nomatch (show (none : Option Nx) = some (.inl q) from hex)
    · rcases st with _ | ⟨v3 | v3 | v3, st⟩
      · exact nomatch (show (none : Option Nx) = some (.inl q) from hex)
      · exact nomatch (show (none : Option Nx) = some (.inl q) from hex)
      · exact nomatch (show (none : Option Nx) = some (.inl q) from hex)
      · replace hex : (if (((shA sh v3).1 = 21 ∧ -128 ≤ v1 ∧ v1 < 128) ∨ ((shA sh v3).1 = 22 ∧ 0 ≤ v1 ∧ v1 ≤ 1)) ∧ 0 ≤ v2 ∧ v2 < (shA sh v3).2 then goN (pc + 1) ls st (upM M v3 v2 v1) sh else none) = some (.inl q) := hex
        split at hex
        · rename_i hg
          obtain rfl := Sum.inl.inj (Option.some.inj hex)
          exact x_bast cx (by rcases hg.1 with h | h <;> exact sh_pos h.1 (by decide) (by decide) (by decide)) hg.1 hg.2.1 hg.2.2 hd k
        · exact nomatch hex
    · exact nomatch (show (none : Option Nx) = some (.inl q) from hex)
    · exact nomatch (show (none : Option Nx) = some (.inl q) from hex)
  · exact nomatch (show (none : Option Nx) = some (.inl q) from hex)
  · exact nomatch (show (none : Option Nx) = some (.inl q) from hex)
theorem y_laload {op len : Nat} {a b : Int} {q : Nat × Lo × List AV × Mem × Sh} (cx : Cx p R s m args meth c Γ E y) (hn0 : n0 ≤ sh.length) (hk0 : k0 ≤ slotsOf sh) (hcap : q.2.2.2.2.length - n0 ≤ R.cells ∧ slotsOf q.2.2.2.2 - k0 ≤ R.slots) (hd : decode (bcY y) pc = .ok (.laload, len)) (hc : chkI y pc op a b len (.laload) = true) (hex : exStep clO (sws y pc) y (op, a, b, pc + len) ls st M sh = some (.inl q)) (k : SW p l e R s m args below meth c Γ E y n0 k0 Q q.1 q.2.1 q.2.2.1 q.2.2.2.1 q.2.2.2.2) : SW p l e R s m args below meth c Γ E y n0 k0 Q pc ls st M sh := by
  simp only [chkI, Bool.and_eq_true, Bool.or_eq_true, beq_iff_eq, decide_eq_true_eq] at hc
  obtain ⟨rfl, rfl⟩ := hc
  rcases st with _ | ⟨v1 | v1 | v1, st⟩
  · exact nomatch (show (none : Option Nx) = some (.inl q) from hex)
  · rcases st with _ | ⟨v2 | v2 | v2, st⟩
    · exact nomatch (show (none : Option Nx) = some (.inl q) from hex)
    · exact nomatch (show (none : Option Nx) = some (.inl q) from hex)
    · exact nomatch (show (none : Option Nx) = some (.inl q) from hex)
    · replace hex : (if (shA sh v2).1 = 23 ∧ 0 ≤ v1 ∧ v1 < (shA sh v2).2 then goN (pc + 1) ls (vL (M v2 v1) :: st) M sh else none) = some (.inl q) := hex
      split at hex
      · rename_i hg
        obtain rfl := Sum.inl.inj (Option.some.inj hex)
        exact x_lald cx (sh_pos hg.1 (by decide) (by decide) (by decide)) hg.1 hg.2.1 hg.2.2 hd k
      · exact nomatch hex
  · exact nomatch (show (none : Option Nx) = some (.inl q) from hex)
  · exact nomatch (show (none : Option Nx) = some (.inl q) from hex)
theorem y_lastore {op len : Nat} {a b : Int} {q : Nat × Lo × List AV × Mem × Sh} (cx : Cx p R s m args meth c Γ E y) (hn0 : n0 ≤ sh.length) (hk0 : k0 ≤ slotsOf sh) (hcap : q.2.2.2.2.length - n0 ≤ R.cells ∧ slotsOf q.2.2.2.2 - k0 ≤ R.slots) (hd : decode (bcY y) pc = .ok (.lastore, len)) (hc : chkI y pc op a b len (.lastore) = true) (hex : exStep clO (sws y pc) y (op, a, b, pc + len) ls st M sh = some (.inl q)) (k : SW p l e R s m args below meth c Γ E y n0 k0 Q q.1 q.2.1 q.2.2.1 q.2.2.2.1 q.2.2.2.2) : SW p l e R s m args below meth c Γ E y n0 k0 Q pc ls st M sh := by
  simp only [chkI, Bool.and_eq_true, Bool.or_eq_true, beq_iff_eq, decide_eq_true_eq] at hc
  obtain ⟨rfl, rfl⟩ := hc
  rcases st with _ | ⟨v1 | v1 | v1, st⟩
  · exact nomatch (show (none : Option Nx) = some (.inl q) from hex)
  · exact nomatch (show (none : Option Nx) = some (.inl q) from hex)
  · rcases st with _ | ⟨v2 | v2 | v2, st⟩
    · exact nomatch (show (none : Option Nx) = some (.inl q) from hex)
    · rcases st with _ | ⟨v3 | v3 | v3, st⟩
      · exact nomatch (show (none : Option Nx) = some (.inl q) from hex)
      · exact nomatch (show (none : Option Nx) = some (.inl q) from hex)
      · exact nomatch (show (none : Option Nx) = some (.inl q) from hex)
      · replace hex : (if (shA sh v3).1 = 23 ∧ 0 ≤ v2 ∧ v2 < (shA sh v3).2 then goN (pc + 1) ls st (upM M v3 v2 v1) sh else none) = some (.inl q) := hex
        split at hex
        · rename_i hg
          obtain rfl := Sum.inl.inj (Option.some.inj hex)
          exact x_last cx (sh_pos hg.1 (by decide) (by decide) (by decide)) hg.1 hg.2.1 hg.2.2 hd k
        · exact nomatch hex
    · exact nomatch (show (none : Option Nx) = some (.inl q) from hex)
    · exact nomatch (show (none : Option Nx) = some (.inl q) from hex)
  · exact nomatch (show (none : Option Nx) = some (.inl q) from hex)
theorem y_aaload {op len : Nat} {a b : Int} {q : Nat × Lo × List AV × Mem × Sh} (cx : Cx p R s m args meth c Γ E y) (hn0 : n0 ≤ sh.length) (hk0 : k0 ≤ slotsOf sh) (hcap : q.2.2.2.2.length - n0 ≤ R.cells ∧ slotsOf q.2.2.2.2 - k0 ≤ R.slots) (hd : decode (bcY y) pc = .ok (.aaload, len)) (hc : chkI y pc op a b len (.aaload) = true) (hex : exStep clO (sws y pc) y (op, a, b, pc + len) ls st M sh = some (.inl q)) (k : SW p l e R s m args below meth c Γ E y n0 k0 Q q.1 q.2.1 q.2.2.1 q.2.2.2.1 q.2.2.2.2) : SW p l e R s m args below meth c Γ E y n0 k0 Q pc ls st M sh := by
  simp only [chkI, Bool.and_eq_true, Bool.or_eq_true, beq_iff_eq, decide_eq_true_eq] at hc
  obtain ⟨rfl, rfl⟩ := hc
  rcases st with _ | ⟨v1 | v1 | v1, st⟩
  · exact nomatch (show (none : Option Nx) = some (.inl q) from hex)
  · rcases st with _ | ⟨v2 | v2 | v2, st⟩
    · exact nomatch (show (none : Option Nx) = some (.inl q) from hex)
    · exact nomatch (show (none : Option Nx) = some (.inl q) from hex)
    · exact nomatch (show (none : Option Nx) = some (.inl q) from hex)
    · replace hex : (if ((shA sh v2).1 = 24 ∨ (shA sh v2).1 = 25 ∨ (shA sh v2).1 = 26) ∧ 0 ≤ v1 ∧ v1 < (shA sh v2).2 then goN (pc + 1) ls (vR (M v2 v1) :: st) M sh else none) = some (.inl q) := hex
      split at hex
      · rename_i hg
        obtain rfl := Sum.inl.inj (Option.some.inj hex)
        exact x_aald cx (by rcases hg.1 with h | h | h <;> exact sh_pos h (by decide) (by decide) (by decide)) hg.1 hg.2.1 hg.2.2 hd k
      · exact nomatch hex
  · exact nomatch (show (none : Option Nx) = some (.inl q) from hex)
  · exact nomatch (show (none : Option Nx) = some (.inl q) from hex)
theorem y_aastore {op len : Nat} {a b : Int} {q : Nat × Lo × List AV × Mem × Sh} (cx : Cx p R s m args meth c Γ E y) (hn0 : n0 ≤ sh.length) (hk0 : k0 ≤ slotsOf sh) (hcap : q.2.2.2.2.length - n0 ≤ R.cells ∧ slotsOf q.2.2.2.2 - k0 ≤ R.slots) (hd : decode (bcY y) pc = .ok (.aastore, len)) (hc : chkI y pc op a b len (.aastore) = true) (hex : exStep clO (sws y pc) y (op, a, b, pc + len) ls st M sh = some (.inl q)) (k : SW p l e R s m args below meth c Γ E y n0 k0 Q q.1 q.2.1 q.2.2.1 q.2.2.2.1 q.2.2.2.2) : SW p l e R s m args below meth c Γ E y n0 k0 Q pc ls st M sh := by
  simp only [chkI, Bool.and_eq_true, Bool.or_eq_true, beq_iff_eq, decide_eq_true_eq] at hc
  obtain ⟨rfl, rfl⟩ := hc
  rcases st with _ | ⟨v1 | v1 | v1, st⟩
  · exact nomatch (show (none : Option Nx) = some (.inl q) from hex)
  · exact nomatch (show (none : Option Nx) = some (.inl q) from hex)
  · exact nomatch (show (none : Option Nx) = some (.inl q) from hex)
  · rcases st with _ | ⟨v2 | v2 | v2, st⟩
    · exact nomatch (show (none : Option Nx) = some (.inl q) from hex)
    · rcases st with _ | ⟨v3 | v3 | v3, st⟩
      · exact nomatch (show (none : Option Nx) = some (.inl q) from hex)
      · exact nomatch (show (none : Option Nx) = some (.inl q) from hex)
      · exact nomatch (show (none : Option Nx) = some (.inl q) from hex)
      · replace hex : (if (shA sh v3).1 = 24 ∧ 0 < v1 ∧ (shA sh v1).1 = 5 ∧ 0 ≤ v2 ∧ v2 < (shA sh v3).2 then goN (pc + 1) ls st (upM M v3 v2 v1) sh else none) = some (.inl q) := hex
        split at hex
        · rename_i hg
          obtain rfl := Sum.inl.inj (Option.some.inj hex)
          exact x_aast cx (sh_pos hg.1 (by decide) (by decide) (by decide)) hg.1 hg.2.1 hg.2.2.1 hg.2.2.2.1 hg.2.2.2.2 hd k
        · exact nomatch hex
    · exact nomatch (show (none : Option Nx) = some (.inl q) from hex)
    · exact nomatch (show (none : Option Nx) = some (.inl q) from hex)
theorem y_new {x : Nat} {op len : Nat} {a b : Int} {q : Nat × Lo × List AV × Mem × Sh} (cx : Cx p R s m args meth c Γ E y) (hn0 : n0 ≤ sh.length) (hk0 : k0 ≤ slotsOf sh) (hcap : q.2.2.2.2.length - n0 ≤ R.cells ∧ slotsOf q.2.2.2.2 - k0 ≤ R.slots) (hd : decode (bcY y) pc = .ok (.new x, len)) (hc : chkI y pc op a b len (.new x) = true) (hex : exStep clO (sws y pc) y (op, a, b, pc + len) ls st M sh = some (.inl q)) (k : SW p l e R s m args below meth c Γ E y n0 k0 Q q.1 q.2.1 q.2.2.1 q.2.2.2.1 q.2.2.2.2) : SW p l e R s m args below meth c Γ E y n0 k0 Q pc ls st M sh := by
  simp only [chkI, Bool.and_eq_true, Bool.or_eq_true, beq_iff_eq, decide_eq_true_eq] at hc
  obtain ⟨⟨rfl, rfl⟩, hc⟩ := hc
  obtain ⟨e1, he, h⟩ := List.any_eq_true.mp hc
  simp only [Bool.and_eq_true, beq_iff_eq] at h
  obtain ⟨⟨h1, h2⟩, rfl⟩ := h
  have hw := List.all_eq_true.mp new_ok e1 he
  rw [Bool.and_eq_true] at hw
  have hw1 := mb_in hw.1
  rw [h1, h2] at hw1
  replace hex : (if ((e1.2.2.1 : Nat) : Int).toNat < 13 then goN (pc + 3) ls (vR (sh.length + 1) :: st) (zeM M (sh.length + 1)) (sh ++ [(((e1.2.2.1 : Nat) : Int).toNat, nF ((e1.2.2.1 : Nat) : Int).toNat)]) else none) = some (.inl q) := hex
  rw [Int.toNat_natCast] at hex
  split at hex
  · obtain rfl := Sum.inl.inj (Option.some.inj hex)
    exact x_new cx (Nat.blt_eq.mp hw.2) hw1 hn0 hk0 hcap.1 hcap.2 hd k
  · exact nomatch hex
theorem y_newarray {t : ArrayType} {op len : Nat} {a b : Int} {q : Nat × Lo × List AV × Mem × Sh} (cx : Cx p R s m args meth c Γ E y) (hn0 : n0 ≤ sh.length) (hk0 : k0 ≤ slotsOf sh) (hcap : q.2.2.2.2.length - n0 ≤ R.cells ∧ slotsOf q.2.2.2.2 - k0 ≤ R.slots) (hd : decode (bcY y) pc = .ok (.newarray t, len)) (hc : chkI y pc op a b len (.newarray t) = true) (hex : exStep clO (sws y pc) y (op, a, b, pc + len) ls st M sh = some (.inl q)) (k : SW p l e R s m args below meth c Γ E y n0 k0 Q q.1 q.2.1 q.2.2.1 q.2.2.2.1 q.2.2.2.2) : SW p l e R s m args below meth c Γ E y n0 k0 Q pc ls st M sh := by
  unfold chkI at hc
  rw [Bool.and_eq_true, Bool.and_eq_true, beq_iff_eq, beq_iff_eq] at hc
  obtain ⟨⟨rfl, rfl⟩, ha⟩ := hc
  rcases st with _ | ⟨v1 | v1 | v1, st⟩
  · exact nomatch (show (none : Option Nx) = some (.inl q) from hex)
  · replace hex : (if 20 ≤ a ∧ a ≤ 23 ∧ 0 ≤ v1 ∧ v1 ≤ 10000 then goN (pc + 2) ls (vR (sh.length + 1) :: st) (zeM M (sh.length + 1)) (sh ++ [(a.toNat, v1.toNat)]) else none) = some (.inl q) := hex
    split at hex
    · rename_i hg
      obtain rfl := Sum.inl.inj (Option.some.inj hex)
      exact x_newarray cx ha hg.2.2.1 hg.2.2.2 hn0 hk0 hcap.1 hcap.2 hd k
    · exact nomatch hex
  · exact nomatch (show (none : Option Nx) = some (.inl q) from hex)
  · exact nomatch (show (none : Option Nx) = some (.inl q) from hex)
theorem y_anewarray {x : Nat} {op len : Nat} {a b : Int} {q : Nat × Lo × List AV × Mem × Sh} (cx : Cx p R s m args meth c Γ E y) (hn0 : n0 ≤ sh.length) (hk0 : k0 ≤ slotsOf sh) (hcap : q.2.2.2.2.length - n0 ≤ R.cells ∧ slotsOf q.2.2.2.2 - k0 ≤ R.slots) (hd : decode (bcY y) pc = .ok (.anewarray x, len)) (hc : chkI y pc op a b len (.anewarray x) = true) (hex : exStep clO (sws y pc) y (op, a, b, pc + len) ls st M sh = some (.inl q)) (k : SW p l e R s m args below meth c Γ E y n0 k0 Q q.1 q.2.1 q.2.2.1 q.2.2.2.1 q.2.2.2.2) : SW p l e R s m args below meth c Γ E y n0 k0 Q pc ls st M sh := by
  simp only [chkI, Bool.and_eq_true, Bool.or_eq_true, beq_iff_eq, decide_eq_true_eq] at hc
  obtain ⟨⟨⟨rfl, rfl⟩, rfl⟩, hc⟩ := hc
  obtain ⟨e1, he, h⟩ := List.any_eq_true.mp hc
  simp only [Bool.and_eq_true, beq_iff_eq] at h
  obtain ⟨⟨h1, h2⟩, h3⟩ := h
  have hw := List.all_eq_true.mp new_ok e1 he
  rw [Bool.and_eq_true] at hw
  have hw1 := mb_in hw.1
  rw [h1, h2, h3] at hw1
  rcases st with _ | ⟨v1 | v1 | v1, st⟩
  · exact nomatch (show (none : Option Nx) = some (.inl q) from hex)
  · replace hex : (if (24 : Int) = 24 ∧ 0 ≤ v1 ∧ v1 ≤ 10000 then goN (pc + 3) ls (vR (sh.length + 1) :: st) (zeM M (sh.length + 1)) (sh ++ [((24 : Int).toNat, v1.toNat)]) else none) = some (.inl q) := hex
    split at hex
    · rename_i hg
      obtain rfl := Sum.inl.inj (Option.some.inj hex)
      exact x_anew cx hw1 hg.2.1 hg.2.2 hn0 hk0 hcap.1 hcap.2 hd k
    · exact nomatch hex
  · exact nomatch (show (none : Option Nx) = some (.inl q) from hex)
  · exact nomatch (show (none : Option Nx) = some (.inl q) from hex)
theorem y_multianewarray {x z : Nat} {op len : Nat} {a b : Int} {q : Nat × Lo × List AV × Mem × Sh} (cx : Cx p R s m args meth c Γ E y) (hn0 : n0 ≤ sh.length) (hk0 : k0 ≤ slotsOf sh) (hcap : q.2.2.2.2.length - n0 ≤ R.cells ∧ slotsOf q.2.2.2.2 - k0 ≤ R.slots) (hd : decode (bcY y) pc = .ok (.multianewarray x z, len)) (hc : chkI y pc op a b len (.multianewarray x z) = true) (hex : exStep clO (sws y pc) y (op, a, b, pc + len) ls st M sh = some (.inl q)) (k : SW p l e R s m args below meth c Γ E y n0 k0 Q q.1 q.2.1 q.2.2.1 q.2.2.2.1 q.2.2.2.2) : SW p l e R s m args below meth c Γ E y n0 k0 Q pc ls st M sh := by
  simp only [chkI, Bool.and_eq_true, Bool.or_eq_true, beq_iff_eq, decide_eq_true_eq] at hc
  obtain ⟨⟨⟨rfl, rfl⟩, rfl⟩, hc⟩ := hc
  obtain ⟨e1, he, h⟩ := List.any_eq_true.mp hc
  simp only [Bool.and_eq_true, beq_iff_eq] at h
  obtain ⟨⟨h1, h2⟩, h3⟩ := h
  have hw := mb_in (List.all_eq_true.mp mna_ok e1 he)
  rw [h1, h2] at hw
  rcases st with _ | ⟨v1 | v1 | v1, st⟩
  · exact nomatch (show (none : Option Nx) = some (.inl q) from hex)
  · rcases st with _ | ⟨v2 | v2 | v2, st⟩
    · exact nomatch (show (none : Option Nx) = some (.inl q) from hex)
    · replace hex : (if ((a = 25 ∧ b = 23) ∨ (a = 26 ∧ b = 20)) ∧ 0 ≤ v2 ∧ v2 ≤ 100 ∧ 0 ≤ v1 ∧ v1 ≤ 10000 then goN (pc + 4) ls (vR (sh.length + 1) :: st) (mnM M sh.length v2) (sh ++ (a.toNat, v2.toNat) :: List.replicate v2.toNat (b.toNat, v1.toNat)) else none) = some (.inl q) := hex
      split at hex
      · rename_i hg
        obtain rfl := Sum.inl.inj (Option.some.inj hex)
        rcases hg.1 with ⟨rfl, rfl⟩ | ⟨rfl, rfl⟩
        · rw [if_pos (by simp only [beq_iff_eq]; omega)] at hw
          exact x_multi (a := 25) (b := 23) (ty := .long) cx (Or.inl ⟨rfl, rfl, rfl⟩) hw hg.2.1 hg.2.2.1 hg.2.2.2.1 hg.2.2.2.2 hn0 hk0 hcap.1 hcap.2 hd k
        · rw [if_neg (by simp only [beq_iff_eq]; omega)] at hw
          exact x_multi (a := 26) (b := 20) (ty := .int) cx (Or.inr ⟨rfl, rfl, rfl⟩) hw hg.2.1 hg.2.2.1 hg.2.2.2.1 hg.2.2.2.2 hn0 hk0 hcap.1 hcap.2 hd k
      · exact nomatch hex
    · exact nomatch (show (none : Option Nx) = some (.inl q) from hex)
    · exact nomatch (show (none : Option Nx) = some (.inl q) from hex)
  · exact nomatch (show (none : Option Nx) = some (.inl q) from hex)
  · exact nomatch (show (none : Option Nx) = some (.inl q) from hex)
theorem y_tableswitch {d lo hi : Int} {offs : Array Int} {op len : Nat} {a b : Int} {q : Nat × Lo × List AV × Mem × Sh} (cx : Cx p R s m args meth c Γ E y) (hn0 : n0 ≤ sh.length) (hk0 : k0 ≤ slotsOf sh) (hcap : q.2.2.2.2.length - n0 ≤ R.cells ∧ slotsOf q.2.2.2.2 - k0 ≤ R.slots) (hd : decode (bcY y) pc = .ok (.tableswitch d lo hi offs, len)) (hc : chkI y pc op a b len (.tableswitch d lo hi offs) = true) (hex : exStep clO (sws y pc) y (op, a, b, pc + len) ls st M sh = some (.inl q)) (k : SW p l e R s m args below meth c Γ E y n0 k0 Q q.1 q.2.1 q.2.2.1 q.2.2.2.1 q.2.2.2.2) : SW p l e R s m args below meth c Γ E y n0 k0 Q pc ls st M sh := by
  simp only [chkI, Bool.and_eq_true, Bool.or_eq_true, beq_iff_eq, decide_eq_true_eq] at hc
  obtain ⟨⟨⟨⟨⟨rfl, hb⟩, h0⟩, hs⟩, ho⟩, hn⟩ := hc
  rcases st with _ | ⟨v1 | v1 | v1, st⟩
  · exact nomatch (show (none : Option Nx) = some (.inl q) from hex)
  · replace hex : (if inR v1 then goN (swL v1 b.toNat (sws y pc)) ls st M sh else none) = some (.inl q) := hex
    split at hex
    · rename_i hg
      obtain rfl := Sum.inl.inj (Option.some.inj hex)
      exact x_tsw cx hg hb h0 hs ho hn hd k
    · exact nomatch hex
  · exact nomatch (show (none : Option Nx) = some (.inl q) from hex)
  · exact nomatch (show (none : Option Nx) = some (.inl q) from hex)
theorem y_lookupswitch {d : Int} {ps : Array (Int × Int)} {op len : Nat} {a b : Int} {q : Nat × Lo × List AV × Mem × Sh} (cx : Cx p R s m args meth c Γ E y) (hn0 : n0 ≤ sh.length) (hk0 : k0 ≤ slotsOf sh) (hcap : q.2.2.2.2.length - n0 ≤ R.cells ∧ slotsOf q.2.2.2.2 - k0 ≤ R.slots) (hd : decode (bcY y) pc = .ok (.lookupswitch d ps, len)) (hc : chkI y pc op a b len (.lookupswitch d ps) = true) (hex : exStep clO (sws y pc) y (op, a, b, pc + len) ls st M sh = some (.inl q)) (k : SW p l e R s m args below meth c Γ E y n0 k0 Q q.1 q.2.1 q.2.2.1 q.2.2.2.1 q.2.2.2.2) : SW p l e R s m args below meth c Γ E y n0 k0 Q pc ls st M sh := by
  simp only [chkI, Bool.and_eq_true, Bool.or_eq_true, beq_iff_eq, decide_eq_true_eq] at hc
  obtain ⟨⟨⟨⟨⟨rfl, hb⟩, h0⟩, hs⟩, ho⟩, hp⟩ := hc
  rcases st with _ | ⟨v1 | v1 | v1, st⟩
  · exact nomatch (show (none : Option Nx) = some (.inl q) from hex)
  · replace hex : (if inR v1 then goN (swL v1 b.toNat (sws y pc)) ls st M sh else none) = some (.inl q) := hex
    split at hex
    · rename_i hg
      obtain rfl := Sum.inl.inj (Option.some.inj hex)
      exact x_lsw cx hg hb h0 hs ho hp hd k
    · exact nomatch hex
  · exact nomatch (show (none : Option Nx) = some (.inl q) from hex)
  · exact nomatch (show (none : Option Nx) = some (.inl q) from hex)
theorem y_invokespecial {x : Nat} {op len : Nat} {a b : Int} {q : Nat × Lo × List AV × Mem × Sh} (cx : Cx p R s m args meth c Γ E y) (hn0 : n0 ≤ sh.length) (hk0 : k0 ≤ slotsOf sh) (hcap : q.2.2.2.2.length - n0 ≤ R.cells ∧ slotsOf q.2.2.2.2 - k0 ≤ R.slots) (hd : decode (bcY y) pc = .ok (.invokespecial x, len)) (hc : chkI y pc op a b len (.invokespecial x) = true) (hex : exStep clO (sws y pc) y (op, a, b, pc + len) ls st M sh = some (.inl q)) (k : SW p l e R s m args below meth c Γ E y n0 k0 Q q.1 q.2.1 q.2.2.1 q.2.2.2.1 q.2.2.2.2) : SW p l e R s m args below meth c Γ E y n0 k0 Q pc ls st M sh := by
  simp only [chkI, Bool.and_eq_true, Bool.or_eq_true, beq_iff_eq, decide_eq_true_eq] at hc
  obtain ⟨rfl, ⟨⟨⟨⟨rfl, -⟩, -⟩, -⟩, -⟩ | ⟨⟨rfl, hc⟩, hro⟩⟩ := hc
  · exact absurd hex (ne_81 _)
  · obtain ⟨e1, he, h⟩ := List.any_eq_true.mp hc
    simp only [Bool.and_eq_true, beq_iff_eq] at h
    have hw := mb_in (List.all_eq_true.mp obj_ok e1 he)
    rw [h.1, h.2] at hw
    rcases st with _ | ⟨v1 | v1 | v1, st⟩
    · exact nomatch (show (none : Option Nx) = some (.inl q) from hex)
    · exact nomatch (show (none : Option Nx) = some (.inl q) from hex)
    · exact nomatch (show (none : Option Nx) = some (.inl q) from hex)
    · replace hex : (if 0 < v1 ∧ wsum st ≤ 8 then goN (pc + 3) ls st M sh else none) = some (.inl q) := hex
      split at hex
      · rename_i hg
        obtain rfl := Sum.inl.inj (Option.some.inj hex)
        exact x_obj cx hg.1 hg.2 hw hro hd k
      · exact nomatch hex
theorem y_invokevirtual {x : Nat} {op len : Nat} {a b : Int} {q : Nat × Lo × List AV × Mem × Sh} (cx : Cx p R s m args meth c Γ E y) (hn0 : n0 ≤ sh.length) (hk0 : k0 ≤ slotsOf sh) (hcap : q.2.2.2.2.length - n0 ≤ R.cells ∧ slotsOf q.2.2.2.2 - k0 ≤ R.slots) (hd : decode (bcY y) pc = .ok (.invokevirtual x, len)) (hc : chkI y pc op a b len (.invokevirtual x) = true) (hex : exStep clO (sws y pc) y (op, a, b, pc + len) ls st M sh = some (.inl q)) (k : SW p l e R s m args below meth c Γ E y n0 k0 Q q.1 q.2.1 q.2.2.1 q.2.2.2.1 q.2.2.2.2) : SW p l e R s m args below meth c Γ E y n0 k0 Q pc ls st M sh := by
  simp only [chkI, Bool.and_eq_true, Bool.or_eq_true, beq_iff_eq, decide_eq_true_eq] at hc
  have hop : op = 80 := by omega
  subst hop
  exact absurd hex (ne_80 _)
theorem y_invokestatic {x : Nat} {op len : Nat} {a b : Int} {q : Nat × Lo × List AV × Mem × Sh} (cx : Cx p R s m args meth c Γ E y) (hn0 : n0 ≤ sh.length) (hk0 : k0 ≤ slotsOf sh) (hcap : q.2.2.2.2.length - n0 ≤ R.cells ∧ slotsOf q.2.2.2.2 - k0 ≤ R.slots) (hd : decode (bcY y) pc = .ok (.invokestatic x, len)) (hc : chkI y pc op a b len (.invokestatic x) = true) (hex : exStep clO (sws y pc) y (op, a, b, pc + len) ls st M sh = some (.inl q)) (k : SW p l e R s m args below meth c Γ E y n0 k0 Q q.1 q.2.1 q.2.2.1 q.2.2.2.1 q.2.2.2.2) : SW p l e R s m args below meth c Γ E y n0 k0 Q pc ls st M sh := by
  simp only [chkI, Bool.and_eq_true, Bool.or_eq_true, beq_iff_eq, decide_eq_true_eq] at hc
  obtain ⟨rfl, ⟨⟨⟨⟨rfl, -⟩, -⟩, -⟩, -⟩ | ⟨hc, hro⟩⟩ := hc
  · exact absurd hex (ne_82 _)
  · obtain ⟨e1, he, h⟩ := List.any_eq_true.mp hc
    simp only [Bool.and_eq_true, beq_iff_eq] at h
    obtain ⟨⟨h1, h2⟩, rfl⟩ := h
    have hw := List.all_eq_true.mp mat_ok e1 he
    simp only [Bool.and_eq_true, Nat.ble_eq] at hw
    obtain ⟨⟨hw, hlo⟩, hhi⟩ := hw
    have hw := mb_in hw
    rw [h1, h2] at hw
    generalize e1.2.2.1 = op at hlo hhi hw hex
    rcases (show op = 84 ∨ op = 85 ∨ op = 86 ∨ op = 87 by omega) with rfl | rfl | rfl | rfl
    · rcases st with _ | ⟨v1 | v1 | v1, st⟩
      · exact nomatch (show (none : Option Nx) = some (.inl q) from hex)
      · rcases st with _ | ⟨v2 | v2 | v2, st⟩
        · exact nomatch (show (none : Option Nx) = some (.inl q) from hex)
        · replace hex : (if inR v2 ∧ inR v1 ∧ wsum st ≤ 8 then goN (pc + 3) ls (vI (min v2 v1) :: st) M sh else none) = some (.inl q) := hex
          split at hex
          · rename_i hg
            obtain rfl := Sum.inl.inj (Option.some.inj hex)
            exact x_min cx hg.1 hg.2.1 hg.2.2 hw hro hcap.1 hcap.2 hd k
          · exact nomatch hex
        · exact nomatch (show (none : Option Nx) = some (.inl q) from hex)
        · exact nomatch (show (none : Option Nx) = some (.inl q) from hex)
      · exact nomatch (show (none : Option Nx) = some (.inl q) from hex)
      · exact nomatch (show (none : Option Nx) = some (.inl q) from hex)
    · rcases st with _ | ⟨v1 | v1 | v1, st⟩
      · exact nomatch (show (none : Option Nx) = some (.inl q) from hex)
      · rcases st with _ | ⟨v2 | v2 | v2, st⟩
        · exact nomatch (show (none : Option Nx) = some (.inl q) from hex)
        · replace hex : (if inR v2 ∧ inR v1 ∧ wsum st ≤ 8 then goN (pc + 3) ls (vI (max v2 v1) :: st) M sh else none) = some (.inl q) := hex
          split at hex
          · rename_i hg
            obtain rfl := Sum.inl.inj (Option.some.inj hex)
            exact x_max cx hg.1 hg.2.1 hg.2.2 hw hro hcap.1 hcap.2 hd k
          · exact nomatch hex
        · exact nomatch (show (none : Option Nx) = some (.inl q) from hex)
        · exact nomatch (show (none : Option Nx) = some (.inl q) from hex)
      · exact nomatch (show (none : Option Nx) = some (.inl q) from hex)
      · exact nomatch (show (none : Option Nx) = some (.inl q) from hex)
    · rcases st with _ | ⟨v1 | v1 | v1, st⟩
      · exact nomatch (show (none : Option Nx) = some (.inl q) from hex)
      · replace hex : (if -2147483648 < v1 ∧ v1 < 2147483648 ∧ wsum st ≤ 8 then goN (pc + 3) ls (vI (if v1 < 0 then -v1 else v1) :: st) M sh else none) = some (.inl q) := hex
        split at hex
        · rename_i hg
          obtain rfl := Sum.inl.inj (Option.some.inj hex)
          exact x_abs cx ⟨by omega, hg.2.1⟩ hg.2.2 hw hro hcap.1 hcap.2 hd k
        · exact nomatch hex
      · exact nomatch (show (none : Option Nx) = some (.inl q) from hex)
      · exact nomatch (show (none : Option Nx) = some (.inl q) from hex)
    · rcases st with _ | ⟨v1 | v1 | v1, st⟩
      · exact nomatch (show (none : Option Nx) = some (.inl q) from hex)
      · rcases st with _ | ⟨v2 | v2 | v2, st⟩
        · exact nomatch (show (none : Option Nx) = some (.inl q) from hex)
        · rcases st with _ | ⟨v3 | v3 | v3, st⟩
          · exact nomatch (show (none : Option Nx) = some (.inl q) from hex)
          · exact nomatch (show (none : Option Nx) = some (.inl q) from hex)
          · exact nomatch (show (none : Option Nx) = some (.inl q) from hex)
          · rcases st with _ | ⟨v4 | v4 | v4, st⟩
            · exact nomatch (show (none : Option Nx) = some (.inl q) from hex)
            · rcases st with _ | ⟨v5 | v5 | v5, st⟩
              · exact nomatch (show (none : Option Nx) = some (.inl q) from hex)
              · exact nomatch (show (none : Option Nx) = some (.inl q) from hex)
              · exact nomatch (show (none : Option Nx) = some (.inl q) from hex)
              · replace hex : (if (shA sh v5).1 = 20 ∧ (shA sh v3).1 = 20 ∧ v5 ≠ v3 ∧ 0 ≤ v1 ∧ 0 ≤ v4 ∧ 0 ≤ v2 ∧ v4 + v1 ≤ (shA sh v5).2 ∧ v2 + v1 ≤ (shA sh v3).2 ∧ v1 ≤ 10000 ∧ v4 ≤ 10000 ∧ v2 ≤ 10000 ∧ wsum st ≤ 8 then goN (pc + 3) ls st (cpM M v5 v3 v4 v2 v1) sh else none) = some (.inl q) := hex
                split at hex
                · rename_i hg
                  obtain rfl := Sum.inl.inj (Option.some.inj hex)
                  exact x_copy cx hg.1 hg.2.1 hg.2.2.2.1 hg.2.2.2.2.1 hg.2.2.2.2.2.1 hg.2.2.2.2.2.2.1 hg.2.2.2.2.2.2.2.1 hg.2.2.2.2.2.2.2.2.2.2.2 hw hro hd k
                · exact nomatch hex
            · exact nomatch (show (none : Option Nx) = some (.inl q) from hex)
            · exact nomatch (show (none : Option Nx) = some (.inl q) from hex)
        · exact nomatch (show (none : Option Nx) = some (.inl q) from hex)
        · exact nomatch (show (none : Option Nx) = some (.inl q) from hex)
      · exact nomatch (show (none : Option Nx) = some (.inl q) from hex)
      · exact nomatch (show (none : Option Nx) = some (.inl q) from hex)
theorem x_step {ins : Instr} {op len : Nat} {a b : Int} {q : Nat × Lo × List AV × Mem × Sh} (cx : Cx p R s m args meth c Γ E y) (hn0 : n0 ≤ sh.length) (hk0 : k0 ≤ slotsOf sh) (hcap : q.2.2.2.2.length - n0 ≤ R.cells ∧ slotsOf q.2.2.2.2 - k0 ≤ R.slots) (hd : decode (bcY y) pc = .ok (ins, len)) (hc : chkI y pc op a b len (ins) = true) (hex : exStep clO (sws y pc) y (op, a, b, pc + len) ls st M sh = some (.inl q)) (k : SW p l e R s m args below meth c Γ E y n0 k0 Q q.1 q.2.1 q.2.2.1 q.2.2.2.1 q.2.2.2.2) : SW p l e R s m args below meth c Γ E y n0 k0 Q pc ls st M sh := by
  cases ins with
  | iconst n => exact x_iconst cx hd hc hex k
  | bipush n => exact x_bipush cx hd hc hex k
  | sipush n => exact x_sipush cx hd hc hex k
  | ldc n => exact x_ldc cx hd hc hex k
  | ldc_w n => exact x_ldc_w cx hd hc hex k
  | lconst n => exact x_lconst cx hd hc hex k
  | aconst_null => exact x_null cx hd hc hex k
  | iload n => exact x_iload cx hd hc hex k
  | iload_n n => exact x_iload_n cx hd hc hex k
  | lload n => exact x_lload cx hd hc hex k
  | lload_n n => exact x_lload_n cx hd hc hex k
  | aload n => exact x_aload cx hd hc hex k
  | aload_n n => exact x_aload_n cx hd hc hex k
  | istore n => exact x_istore cx hd hc hex k
  | istore_n n => exact x_istore_n cx hd hc hex k
  | lstore n => exact x_lstore cx hd hc hex k
  | lstore_n n => exact x_lstore_n cx hd hc hex k
  | astore n => exact x_astore cx hd hc hex k
  | astore_n n => exact x_astore_n cx hd hc hex k
  | iinc n z => exact x_iinc cx hd hc hex k
  | pop => exact x_pop cx hd hc hex k
  | dup => exact x_dup cx hd hc hex k
  | dup2 => exact x_dup2 cx hd hc hex k
  | iadd => exact x_iadd cx hd hc hex k
  | isub => exact x_isub cx hd hc hex k
  | imul => exact x_imul cx hd hc hex k
  | ineg => exact x_ineg cx hd hc hex k
  | irem => exact x_irem cx hd hc hex k
  | iand => exact x_iand cx hd hc hex k
  | ior => exact x_ior cx hd hc hex k
  | ishl => exact x_ishl cx hd hc hex k
  | ishr => exact x_ishr cx hd hc hex k
  | iushr => exact x_iushr cx hd hc hex k
  | ladd => exact x_ladd cx hd hc hex k
  | lsub => exact x_lsub cx hd hc hex k
  | lmul => exact x_lmul cx hd hc hex k
  | ldiv => exact x_ldiv cx hd hc hex k
  | lrem => exact x_lrem cx hd hc hex k
  | land => exact x_land cx hd hc hex k
  | lor => exact x_lor cx hd hc hex k
  | lshl => exact x_lshl cx hd hc hex k
  | lushr => exact x_lushr cx hd hc hex k
  | lcmp => exact x_lcmp cx hd hc hex k
  | i2l => exact x_i2l cx hd hc hex k
  | l2i => exact x_l2i cx hd hc hex k
  | i2b => exact x_i2b cx hd hc hex k
  | i2c => exact x_i2c cx hd hc hex k
  | ifnull n => exact x_ifnull cx hd hc hex k
  | ifnonnull n => exact x_ifnonnull cx hd hc hex k
  | goto n => exact x_goto cx hd hc hex k
  | ldc2_w n => exact x_ldc2 cx hd hc hex k
  | ifCond cd off =>
    cases cd with
    | eq => exact x_if_eq cx hd hc hex k
    | ne => exact x_if_ne cx hd hc hex k
    | lt => exact x_if_lt cx hd hc hex k
    | ge => exact x_if_ge cx hd hc hex k
    | gt => exact x_if_gt cx hd hc hex k
    | le => exact x_if_le cx hd hc hex k
  | if_icmp cd off =>
    cases cd with
    | eq => exact x_icmp_eq cx hd hc hex k
    | ne => exact x_icmp_ne cx hd hc hex k
    | lt => exact x_icmp_lt cx hd hc hex k
    | ge => exact x_icmp_ge cx hd hc hex k
    | gt => exact x_icmp_gt cx hd hc hex k
    | le => exact x_icmp_le cx hd hc hex k
  | getfield x => exact y_getfield cx hn0 hk0 hcap hd hc hex k
  | putfield x => exact y_putfield cx hn0 hk0 hcap hd hc hex k
  | getstatic x => exact y_getstatic cx hn0 hk0 hcap hd hc hex k
  | arraylength => exact y_arraylength cx hn0 hk0 hcap hd hc hex k
  | iaload => exact y_iaload cx hn0 hk0 hcap hd hc hex k
  | iastore => exact y_iastore cx hn0 hk0 hcap hd hc hex k
  | baload => exact y_baload cx hn0 hk0 hcap hd hc hex k
  | bastore => exact y_bastore cx hn0 hk0 hcap hd hc hex k
  | laload => exact y_laload cx hn0 hk0 hcap hd hc hex k
  | lastore => exact y_lastore cx hn0 hk0 hcap hd hc hex k
  | aaload => exact y_aaload cx hn0 hk0 hcap hd hc hex k
  | aastore => exact y_aastore cx hn0 hk0 hcap hd hc hex k
  | new x => exact y_new cx hn0 hk0 hcap hd hc hex k
  | newarray t => exact y_newarray cx hn0 hk0 hcap hd hc hex k
  | anewarray x => exact y_anewarray cx hn0 hk0 hcap hd hc hex k
  | multianewarray x z => exact y_multianewarray cx hn0 hk0 hcap hd hc hex k
  | tableswitch d lo hi offs => exact y_tableswitch cx hn0 hk0 hcap hd hc hex k
  | lookupswitch d ps => exact y_lookupswitch cx hn0 hk0 hcap hd hc hex k
  | invokespecial x => exact y_invokespecial cx hn0 hk0 hcap hd hc hex k
  | invokevirtual x => exact y_invokevirtual cx hn0 hk0 hcap hd hc hex k
  | invokestatic x => exact y_invokestatic cx hn0 hk0 hcap hd hc hex k
  | ireturn =>
    simp only [chkI, Bool.and_eq_true, beq_iff_eq] at hc
    exact absurd hex (ne_90 (by omega) _)
  | lreturn =>
    simp only [chkI, Bool.and_eq_true, beq_iff_eq] at hc
    exact absurd hex (ne_90 (by omega) _)
  | areturn =>
    simp only [chkI, Bool.and_eq_true, beq_iff_eq] at hc
    exact absurd hex (ne_90 (by omega) _)
  | return_ =>
    simp only [chkI, Bool.and_eq_true, beq_iff_eq] at hc
    exact absurd hex (ne_90 (by omega) _)
  | _ => exact absurd hc Bool.false_ne_true
end SIM
