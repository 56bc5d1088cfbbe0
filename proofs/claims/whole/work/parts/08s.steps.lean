/-! THE STEPS, part two: each instruction (locals, stack, numbers, branches). -/
section SIM
variable {p : Program} {l : Launch} {e : Env} {R : Room} {s : State} {m : MethodId} {args : Array Value} {below : List Frame} {meth : Method} {c : Code} {Q : State → Prop}
variable {Γ : Gm} {E : Em} {y n0 k0 pc : Nat} {ls : Lo} {st : List AV} {M : Mem} {sh : Sh}
theorem W.stk {H : Heap} {locs : List Loc} {cells slots : Nat} {lsA : Array Slot} {v w : Value} {rest : List Value} (h : w = v) (k : W p l e R s m args below meth c H locs cells slots Q (F0 m pc lsA (w :: rest))) : W p l e R s m args below meth c H locs cells slots Q (F0 m pc lsA (v :: rest)) := h ▸ k
theorem W.aloadq {H : Heap} {locs : List Loc} {cells slots : Nat} {lsA : Array Slot} {rest : List Value} {cc : ByteArray} (hexec : p.tables.exec = Jvm.exec) (hb : c.code = cc) {i : Nat} {r : Option Nat} (hdg : decode cc pc = .ok (.aload i, 2)) (hl : lsA[i]? = some (.val (va_rf r))) (k : W p l e R s m args below meth c H locs cells slots Q (F0 m (pc + 2) lsA (va_rf r :: rest))) : W p l e R s m args below meth c H locs cells slots Q (F0 m pc lsA rest) := by
  cases r with
  | none => exact lv_aloadN hexec hb hdg hl k
  | some a => exact lv_aload hexec hb hdg hl k
theorem W.aloadq_n {H : Heap} {locs : List Loc} {cells slots : Nat} {lsA : Array Slot} {rest : List Value} {cc : ByteArray} (hexec : p.tables.exec = Jvm.exec) (hb : c.code = cc) {i : Fin 4} {r : Option Nat} (hdg : decode cc pc = .ok (.aload_n i, 1)) (hl : lsA[i.val]? = some (.val (va_rf r))) (k : W p l e R s m args below meth c H locs cells slots Q (F0 m (pc + 1) lsA (va_rf r :: rest))) : W p l e R s m args below meth c H locs cells slots Q (F0 m pc lsA rest) := by
  cases r with
  | none => exact lv_aload_nN hexec hb hdg rfl hl k
  | some a => exact lv_aload_n hexec hb hdg rfl hl k
theorem W.astoreq {H : Heap} {locs : List Loc} {cells slots : Nat} {lsA : Array Slot} {rest : List Value} {cc : ByteArray} (hexec : p.tables.exec = Jvm.exec) (hb : c.code = cc) {i nL : Nat} {r : Option Nat} {lv lv' : List (Nat × Value)} (hdg : decode cc pc = .ok (.astore i, 2)) (h : lv_has lsA nL lv) (hn : i < nL) (hl : (i, va_rf r) :: lv.filter (fun q => !(q.1 == i) && !(q.1 + 1 == i && q.2.category == 2)) = lv') (kk : ∀ ls' : Array Slot, lv_has ls' nL lv' → W p l e R s m args below meth c H locs cells slots Q (F0 m (pc + 2) ls' rest)) : W p l e R s m args below meth c H locs cells slots Q (F0 m pc lsA (va_rf r :: rest)) := by
  cases r with
  | none => exact lv_astoreN hexec hb hdg h hn hl kk
  | some a => exact lv_astore hexec hb hdg h hn hl kk
theorem W.astoreq_n {H : Heap} {locs : List Loc} {cells slots : Nat} {lsA : Array Slot} {rest : List Value} {cc : ByteArray} (hexec : p.tables.exec = Jvm.exec) (hb : c.code = cc) {i : Fin 4} {nL : Nat} {r : Option Nat} {lv lv' : List (Nat × Value)} (hdg : decode cc pc = .ok (.astore_n i, 1)) (h : lv_has lsA nL lv) (hn : i.val < nL) (hl : (i.val, va_rf r) :: lv.filter (fun q => !(q.1 == i.val) && !(q.1 + 1 == i.val && q.2.category == 2)) = lv') (kk : ∀ ls' : Array Slot, lv_has ls' nL lv' → W p l e R s m args below meth c H locs cells slots Q (F0 m (pc + 1) ls' rest)) : W p l e R s m args below meth c H locs cells slots Q (F0 m pc lsA (va_rf r :: rest)) := by
  cases r with
  | none => exact lv_astore_nN hexec hb hdg rfl h hn hl kk
  | some a => exact lv_astore_n hexec hb hdg rfl h hn hl kk
theorem x_iconst {n : Int} {op len : Nat} {a b : Int} {q : Nat × Lo × List AV × Mem × Sh} (cx : Cx p R s m args meth c Γ E y) (hd : decode (bcY y) pc = .ok (.iconst n, len)) (hc : chkI y pc op a b len (.iconst n) = true) (hex : exStep clO (sws y pc) y (op, a, b, pc + len) ls st M sh = some (.inl q)) (k : SW p l e R s m args below meth c Γ E y n0 k0 Q q.1 q.2.1 q.2.2.1 q.2.2.2.1 q.2.2.2.2) : SW p l e R s m args below meth c Γ E y n0 k0 Q pc ls st M sh := by
  simp only [chkI, Bool.and_eq_true, beq_iff_eq] at hc
  obtain ⟨⟨rfl, rfl⟩, rfl⟩ := hc
  obtain rfl := Sum.inl.inj (Option.some.inj hex)
  intro H locs lsA hX hS hL
  exact lv_iconst cx.1 cx.2.1 hd rfl (k H locs lsA hX hS hL)
theorem x_bipush {n : Int} {op len : Nat} {a b : Int} {q : Nat × Lo × List AV × Mem × Sh} (cx : Cx p R s m args meth c Γ E y) (hd : decode (bcY y) pc = .ok (.bipush n, len)) (hc : chkI y pc op a b len (.bipush n) = true) (hex : exStep clO (sws y pc) y (op, a, b, pc + len) ls st M sh = some (.inl q)) (k : SW p l e R s m args below meth c Γ E y n0 k0 Q q.1 q.2.1 q.2.2.1 q.2.2.2.1 q.2.2.2.2) : SW p l e R s m args below meth c Γ E y n0 k0 Q pc ls st M sh := by
  simp only [chkI, Bool.and_eq_true, beq_iff_eq, decide_eq_true_eq] at hc
  obtain ⟨⟨⟨rfl, rfl⟩, rfl⟩, hv⟩ := hc
  obtain rfl := Sum.inl.inj (Option.some.inj hex)
  intro H locs lsA hX hS hL
  exact lv_bipush cx.1 cx.2.1 hd hv (k H locs lsA hX hS hL)
theorem x_sipush {n : Int} {op len : Nat} {a b : Int} {q : Nat × Lo × List AV × Mem × Sh} (cx : Cx p R s m args meth c Γ E y) (hd : decode (bcY y) pc = .ok (.sipush n, len)) (hc : chkI y pc op a b len (.sipush n) = true) (hex : exStep clO (sws y pc) y (op, a, b, pc + len) ls st M sh = some (.inl q)) (k : SW p l e R s m args below meth c Γ E y n0 k0 Q q.1 q.2.1 q.2.2.1 q.2.2.2.1 q.2.2.2.2) : SW p l e R s m args below meth c Γ E y n0 k0 Q pc ls st M sh := by
  simp only [chkI, Bool.and_eq_true, beq_iff_eq, decide_eq_true_eq] at hc
  obtain ⟨⟨⟨rfl, rfl⟩, rfl⟩, hv⟩ := hc
  obtain rfl := Sum.inl.inj (Option.some.inj hex)
  intro H locs lsA hX hS hL
  exact lv_sipush cx.1 cx.2.1 hd hv (k H locs lsA hX hS hL)
theorem x_ldcS {n len : Nat} {a : Int} (cx : Cx p R s m args meth c Γ E y) (hd : decode (bcY y) pc = .ok (.ldc n, 2)) (hc : (srT.any fun e => e.1 == oxY y && e.2.1 == n && -(1 + (e.2.2 : Int)) == a) = true) (k : SW p l e R s m args below meth c Γ E y n0 k0 Q (pc + 2) ls (vR a :: st) M sh) : SW p l e R s m args below meth c Γ E y n0 k0 Q pc ls st M sh := by
  obtain ⟨e1, he, h⟩ := List.any_eq_true.mp hc
  simp only [Bool.and_eq_true, beq_iff_eq] at h
  obtain ⟨⟨h1, h2⟩, h3⟩ := h
  have hZ := cx.2.2.2.2.2.1.2.2.2.2.1 e1 he
  have hlt : e1.2.2 < 18 := by
    have := List.all_eq_true.mp (show (srT.all fun e => Nat.blt e.2.2 18) = true by decide +kernel) e1 he
    exact Nat.blt_eq.mp this
  have hg := cx.2.2.2.2.2.2.1.2.1 e1.2.2 hlt
  intro H locs lsA hX hS hL
  have kk := k H locs lsA hX hS hL
  rw [List.map_cons] at kk
  have e0 : vlV Γ (vR a) = .ref (E.1 e1.2.2) := by
    show va_rf (gS Γ a) = _
    rw [show a = -1 - (e1.2.2 : Int) by omega, hg]
    rfl
  rw [e0] at kk
  rw [h1, h2] at hZ
  exact va_ldcS cx.1 cx.2.1 cx.2.2.2.1 hZ hd kk
theorem x_ldc {n : Nat} {op len : Nat} {a b : Int} {q : Nat × Lo × List AV × Mem × Sh} (cx : Cx p R s m args meth c Γ E y) (hd : decode (bcY y) pc = .ok (.ldc n, len)) (hc : chkI y pc op a b len (.ldc n) = true) (hex : exStep clO (sws y pc) y (op, a, b, pc + len) ls st M sh = some (.inl q)) (k : SW p l e R s m args below meth c Γ E y n0 k0 Q q.1 q.2.1 q.2.2.1 q.2.2.2.1 q.2.2.2.2) : SW p l e R s m args below meth c Γ E y n0 k0 Q pc ls st M sh := by
  simp only [chkI, Bool.and_eq_true, Bool.or_eq_true, beq_iff_eq] at hc
  obtain ⟨rfl, ⟨rfl, hc⟩ | ⟨rfl, hc⟩⟩ := hc
  · obtain rfl := Sum.inl.inj (Option.some.inj hex)
    have he : ∃ e ∈ ciT, e.1 = oxY y ∧ e.2.1 = n ∧ e.2.2.1 = a := by
      obtain ⟨e, he, h⟩ := List.any_eq_true.mp hc
      simp only [Bool.and_eq_true, beq_iff_eq] at h
      exact ⟨e, he, h.1.1, h.1.2, h.2⟩
    obtain ⟨e1, he, h1, h2, h3⟩ := he
    have hw := mb_in (List.all_eq_true.mp ci_ok e1 he)
    rw [h1, h2, h3] at hw
    intro H locs lsA hX hS hL
    exact lv_ldc cx.1 cx.2.1 cx.2.2.2.1 (cx.2.2.2.2.1 _ hw) hd (k H locs lsA hX hS hL)
  · obtain rfl := Sum.inl.inj (Option.some.inj hex)
    exact x_ldcS (len := 2) cx hd hc k
theorem x_ldc_w {n : Nat} {op len : Nat} {a b : Int} {q : Nat × Lo × List AV × Mem × Sh} (cx : Cx p R s m args meth c Γ E y) (hd : decode (bcY y) pc = .ok (.ldc_w n, len)) (hc : chkI y pc op a b len (.ldc_w n) = true) (hex : exStep clO (sws y pc) y (op, a, b, pc + len) ls st M sh = some (.inl q)) (k : SW p l e R s m args below meth c Γ E y n0 k0 Q q.1 q.2.1 q.2.2.1 q.2.2.2.1 q.2.2.2.2) : SW p l e R s m args below meth c Γ E y n0 k0 Q pc ls st M sh := by
  simp only [chkI, Bool.and_eq_true, beq_iff_eq] at hc
  obtain ⟨⟨rfl, rfl⟩, hc⟩ := hc
  obtain rfl := Sum.inl.inj (Option.some.inj hex)
  have he : ∃ e ∈ ciT, e.1 = oxY y ∧ e.2.1 = n ∧ e.2.2.1 = a := by
    obtain ⟨e, he, h⟩ := List.any_eq_true.mp hc
    simp only [Bool.and_eq_true, beq_iff_eq] at h
    exact ⟨e, he, h.1.1, h.1.2, h.2⟩
  obtain ⟨e1, he, h1, h2, h3⟩ := he
  have hw := mb_in (List.all_eq_true.mp ci_ok e1 he)
  rw [h1, h2, h3] at hw
  intro H locs lsA hX hS hL
  exact lv_ldcw cx.1 cx.2.1 cx.2.2.2.1 (cx.2.2.2.2.1 _ hw) hd (k H locs lsA hX hS hL)
theorem x_lconst {n : Fin 2} {op len : Nat} {a b : Int} {q : Nat × Lo × List AV × Mem × Sh} (cx : Cx p R s m args meth c Γ E y) (hd : decode (bcY y) pc = .ok (.lconst n, len)) (hc : chkI y pc op a b len (.lconst n) = true) (hex : exStep clO (sws y pc) y (op, a, b, pc + len) ls st M sh = some (.inl q)) (k : SW p l e R s m args below meth c Γ E y n0 k0 Q q.1 q.2.1 q.2.2.1 q.2.2.2.1 q.2.2.2.2) : SW p l e R s m args below meth c Γ E y n0 k0 Q pc ls st M sh := by
  simp only [chkI, Bool.and_eq_true, beq_iff_eq] at hc
  obtain ⟨⟨rfl, rfl⟩, rfl⟩ := hc
  obtain rfl := Sum.inl.inj (Option.some.inj hex)
  intro H locs lsA hX hS hL
  exact lv_lconst cx.1 cx.2.1 hd (Int64.ofInt_eq_ofNat).symm (k H locs lsA hX hS hL)
theorem x_ldc2 {n : Nat} {op len : Nat} {a b : Int} {q : Nat × Lo × List AV × Mem × Sh} (cx : Cx p R s m args meth c Γ E y) (hd : decode (bcY y) pc = .ok (.ldc2_w n, len)) (hc : chkI y pc op a b len (.ldc2_w n) = true) (hex : exStep clO (sws y pc) y (op, a, b, pc + len) ls st M sh = some (.inl q)) (k : SW p l e R s m args below meth c Γ E y n0 k0 Q q.1 q.2.1 q.2.2.1 q.2.2.2.1 q.2.2.2.2) : SW p l e R s m args below meth c Γ E y n0 k0 Q pc ls st M sh := by
  simp only [chkI, Bool.and_eq_true, beq_iff_eq] at hc
  obtain ⟨⟨rfl, rfl⟩, hc⟩ := hc
  obtain rfl := Sum.inl.inj (Option.some.inj hex)
  have he : ∃ e ∈ clT, e.1 = oxY y ∧ e.2.1 = n ∧ e.2.2.1 = a := by
    obtain ⟨e, he, h⟩ := List.any_eq_true.mp hc
    simp only [Bool.and_eq_true, beq_iff_eq] at h
    exact ⟨e, he, h.1.1, h.1.2, h.2⟩
  obtain ⟨e1, he, h1, h2, h3⟩ := he
  have hw := mb_in (List.all_eq_true.mp cl_ok e1 he)
  rw [h1, h2, h3] at hw
  intro H locs lsA hX hS hL
  exact lv_ldc2 cx.1 cx.2.1 cx.2.2.2.1 (cx.2.2.2.2.1 _ hw) hd (k H locs lsA hX hS hL)
theorem x_null {op len : Nat} {a b : Int} {q : Nat × Lo × List AV × Mem × Sh} (cx : Cx p R s m args meth c Γ E y) (hd : decode (bcY y) pc = .ok (.aconst_null, len)) (hc : chkI y pc op a b len (.aconst_null) = true) (hex : exStep clO (sws y pc) y (op, a, b, pc + len) ls st M sh = some (.inl q)) (k : SW p l e R s m args below meth c Γ E y n0 k0 Q q.1 q.2.1 q.2.2.1 q.2.2.2.1 q.2.2.2.2) : SW p l e R s m args below meth c Γ E y n0 k0 Q pc ls st M sh := by
  simp only [chkI, Bool.and_eq_true, beq_iff_eq] at hc
  obtain ⟨rfl, rfl⟩ := hc
  obtain rfl := Sum.inl.inj (Option.some.inj hex)
  intro H locs lsA hX hS hL
  have kk := k H locs lsA hX hS hL
  rw [List.map_cons, show vlV Γ (vR 0) = .null by show va_rf (gS Γ 0) = _; rw [gS_0 cx.2.2.2.2.2.2.1]; rfl] at kk
  exact lv_null cx.1 cx.2.1 hd kk
theorem x_iload {n : Nat} {op len : Nat} {a b : Int} {q : Nat × Lo × List AV × Mem × Sh} (cx : Cx p R s m args meth c Γ E y) (hd : decode (bcY y) pc = .ok (.iload n, len)) (hc : chkI y pc op a b len (.iload n) = true) (hex : exStep clO (sws y pc) y (op, a, b, pc + len) ls st M sh = some (.inl q)) (k : SW p l e R s m args below meth c Γ E y n0 k0 Q q.1 q.2.1 q.2.2.1 q.2.2.2.1 q.2.2.2.2) : SW p l e R s m args below meth c Γ E y n0 k0 Q pc ls st M sh := by
  simp only [chkI, Bool.and_eq_true, beq_iff_eq] at hc
  obtain ⟨⟨rfl, rfl⟩, rfl⟩ := hc
  replace hex : (match ls[((n : Nat) : Int).toNat]? with
    | some (some (.inl x)) => goN (pc + 2) ls (vI x :: st) M sh
    | _ => (none : Option Nx)) = some (.inl q) := hex
  rcases hx : ls[((n : Nat) : Int).toNat]? with _ | _ | x | x | x <;> rw [hx] at hex
  · exact nomatch (show (none : Option Nx) = some (.inl q) from hex)
  · exact nomatch (show (none : Option Nx) = some (.inl q) from hex)
  · obtain rfl := Sum.inl.inj (Option.some.inj hex)
    intro H locs lsA hX hS hL
    exact lv_iload cx.1 cx.2.1 hd (hL.at hx) (k H locs lsA hX hS hL)
  · exact nomatch (show (none : Option Nx) = some (.inl q) from hex)
  · exact nomatch (show (none : Option Nx) = some (.inl q) from hex)
theorem x_iload_n {n : Fin 4} {op len : Nat} {a b : Int} {q : Nat × Lo × List AV × Mem × Sh} (cx : Cx p R s m args meth c Γ E y) (hd : decode (bcY y) pc = .ok (.iload_n n, len)) (hc : chkI y pc op a b len (.iload_n n) = true) (hex : exStep clO (sws y pc) y (op, a, b, pc + len) ls st M sh = some (.inl q)) (k : SW p l e R s m args below meth c Γ E y n0 k0 Q q.1 q.2.1 q.2.2.1 q.2.2.2.1 q.2.2.2.2) : SW p l e R s m args below meth c Γ E y n0 k0 Q pc ls st M sh := by
  simp only [chkI, Bool.and_eq_true, beq_iff_eq] at hc
  obtain ⟨⟨rfl, rfl⟩, rfl⟩ := hc
  replace hex : (match ls[((n : Nat) : Int).toNat]? with
    | some (some (.inl x)) => goN (pc + 1) ls (vI x :: st) M sh
    | _ => (none : Option Nx)) = some (.inl q) := hex
  rcases hx : ls[((n : Nat) : Int).toNat]? with _ | _ | x | x | x <;> rw [hx] at hex
  · exact nomatch (show (none : Option Nx) = some (.inl q) from hex)
  · exact nomatch (show (none : Option Nx) = some (.inl q) from hex)
  · obtain rfl := Sum.inl.inj (Option.some.inj hex)
    intro H locs lsA hX hS hL
    exact lv_iload_n cx.1 cx.2.1 hd rfl (hL.at hx) (k H locs lsA hX hS hL)
  · exact nomatch (show (none : Option Nx) = some (.inl q) from hex)
  · exact nomatch (show (none : Option Nx) = some (.inl q) from hex)
theorem x_lload {n : Nat} {op len : Nat} {a b : Int} {q : Nat × Lo × List AV × Mem × Sh} (cx : Cx p R s m args meth c Γ E y) (hd : decode (bcY y) pc = .ok (.lload n, len)) (hc : chkI y pc op a b len (.lload n) = true) (hex : exStep clO (sws y pc) y (op, a, b, pc + len) ls st M sh = some (.inl q)) (k : SW p l e R s m args below meth c Γ E y n0 k0 Q q.1 q.2.1 q.2.2.1 q.2.2.2.1 q.2.2.2.2) : SW p l e R s m args below meth c Γ E y n0 k0 Q pc ls st M sh := by
  simp only [chkI, Bool.and_eq_true, beq_iff_eq] at hc
  obtain ⟨⟨rfl, rfl⟩, rfl⟩ := hc
  replace hex : (match ls[((n : Nat) : Int).toNat]? with
    | some (some (.inr (.inl x))) => goN (pc + 2) ls (vL x :: st) M sh
    | _ => (none : Option Nx)) = some (.inl q) := hex
  rcases hx : ls[((n : Nat) : Int).toNat]? with _ | _ | x | x | x <;> rw [hx] at hex
  · exact nomatch (show (none : Option Nx) = some (.inl q) from hex)
  · exact nomatch (show (none : Option Nx) = some (.inl q) from hex)
  · exact nomatch (show (none : Option Nx) = some (.inl q) from hex)
  · obtain rfl := Sum.inl.inj (Option.some.inj hex)
    intro H locs lsA hX hS hL
    exact lv_lload cx.1 cx.2.1 hd (hL.at hx) (k H locs lsA hX hS hL)
  · exact nomatch (show (none : Option Nx) = some (.inl q) from hex)
theorem x_lload_n {n : Fin 4} {op len : Nat} {a b : Int} {q : Nat × Lo × List AV × Mem × Sh} (cx : Cx p R s m args meth c Γ E y) (hd : decode (bcY y) pc = .ok (.lload_n n, len)) (hc : chkI y pc op a b len (.lload_n n) = true) (hex : exStep clO (sws y pc) y (op, a, b, pc + len) ls st M sh = some (.inl q)) (k : SW p l e R s m args below meth c Γ E y n0 k0 Q q.1 q.2.1 q.2.2.1 q.2.2.2.1 q.2.2.2.2) : SW p l e R s m args below meth c Γ E y n0 k0 Q pc ls st M sh := by
  simp only [chkI, Bool.and_eq_true, beq_iff_eq] at hc
  obtain ⟨⟨rfl, rfl⟩, rfl⟩ := hc
  replace hex : (match ls[((n : Nat) : Int).toNat]? with
    | some (some (.inr (.inl x))) => goN (pc + 1) ls (vL x :: st) M sh
    | _ => (none : Option Nx)) = some (.inl q) := hex
  rcases hx : ls[((n : Nat) : Int).toNat]? with _ | _ | x | x | x <;> rw [hx] at hex
  · exact nomatch (show (none : Option Nx) = some (.inl q) from hex)
  · exact nomatch (show (none : Option Nx) = some (.inl q) from hex)
  · exact nomatch (show (none : Option Nx) = some (.inl q) from hex)
  · obtain rfl := Sum.inl.inj (Option.some.inj hex)
    intro H locs lsA hX hS hL
    exact lv_lload_n cx.1 cx.2.1 hd rfl (hL.at hx) (k H locs lsA hX hS hL)
  · exact nomatch (show (none : Option Nx) = some (.inl q) from hex)
theorem x_aload {n : Nat} {op len : Nat} {a b : Int} {q : Nat × Lo × List AV × Mem × Sh} (cx : Cx p R s m args meth c Γ E y) (hd : decode (bcY y) pc = .ok (.aload n, len)) (hc : chkI y pc op a b len (.aload n) = true) (hex : exStep clO (sws y pc) y (op, a, b, pc + len) ls st M sh = some (.inl q)) (k : SW p l e R s m args below meth c Γ E y n0 k0 Q q.1 q.2.1 q.2.2.1 q.2.2.2.1 q.2.2.2.2) : SW p l e R s m args below meth c Γ E y n0 k0 Q pc ls st M sh := by
  simp only [chkI, Bool.and_eq_true, beq_iff_eq] at hc
  obtain ⟨⟨rfl, rfl⟩, rfl⟩ := hc
  replace hex : (match ls[((n : Nat) : Int).toNat]? with
    | some (some (.inr (.inr x))) => goN (pc + 2) ls (vR x :: st) M sh
    | _ => (none : Option Nx)) = some (.inl q) := hex
  rcases hx : ls[((n : Nat) : Int).toNat]? with _ | _ | x | x | x <;> rw [hx] at hex
  · exact nomatch (show (none : Option Nx) = some (.inl q) from hex)
  · exact nomatch (show (none : Option Nx) = some (.inl q) from hex)
  · exact nomatch (show (none : Option Nx) = some (.inl q) from hex)
  · exact nomatch (show (none : Option Nx) = some (.inl q) from hex)
  · obtain rfl := Sum.inl.inj (Option.some.inj hex)
    intro H locs lsA hX hS hL
    exact W.aloadq cx.1 cx.2.1 hd (hL.at hx) (k H locs lsA hX hS hL)
theorem x_aload_n {n : Fin 4} {op len : Nat} {a b : Int} {q : Nat × Lo × List AV × Mem × Sh} (cx : Cx p R s m args meth c Γ E y) (hd : decode (bcY y) pc = .ok (.aload_n n, len)) (hc : chkI y pc op a b len (.aload_n n) = true) (hex : exStep clO (sws y pc) y (op, a, b, pc + len) ls st M sh = some (.inl q)) (k : SW p l e R s m args below meth c Γ E y n0 k0 Q q.1 q.2.1 q.2.2.1 q.2.2.2.1 q.2.2.2.2) : SW p l e R s m args below meth c Γ E y n0 k0 Q pc ls st M sh := by
  simp only [chkI, Bool.and_eq_true, beq_iff_eq] at hc
  obtain ⟨⟨rfl, rfl⟩, rfl⟩ := hc
  replace hex : (match ls[((n : Nat) : Int).toNat]? with
    | some (some (.inr (.inr x))) => goN (pc + 1) ls (vR x :: st) M sh
    | _ => (none : Option Nx)) = some (.inl q) := hex
  rcases hx : ls[((n : Nat) : Int).toNat]? with _ | _ | x | x | x <;> rw [hx] at hex
  · exact nomatch (show (none : Option Nx) = some (.inl q) from hex)
  · exact nomatch (show (none : Option Nx) = some (.inl q) from hex)
  · exact nomatch (show (none : Option Nx) = some (.inl q) from hex)
  · exact nomatch (show (none : Option Nx) = some (.inl q) from hex)
  · obtain rfl := Sum.inl.inj (Option.some.inj hex)
    intro H locs lsA hX hS hL
    exact W.aloadq_n cx.1 cx.2.1 hd (hL.at hx) (k H locs lsA hX hS hL)
theorem x_istore {n : Nat} {op len : Nat} {a b : Int} {q : Nat × Lo × List AV × Mem × Sh} (cx : Cx p R s m args meth c Γ E y) (hd : decode (bcY y) pc = .ok (.istore n, len)) (hc : chkI y pc op a b len (.istore n) = true) (hex : exStep clO (sws y pc) y (op, a, b, pc + len) ls st M sh = some (.inl q)) (k : SW p l e R s m args below meth c Γ E y n0 k0 Q q.1 q.2.1 q.2.2.1 q.2.2.2.1 q.2.2.2.2) : SW p l e R s m args below meth c Γ E y n0 k0 Q pc ls st M sh := by
  simp only [chkI, Bool.and_eq_true, beq_iff_eq] at hc
  obtain ⟨⟨rfl, rfl⟩, rfl⟩ := hc
  rcases st with _ | ⟨v1 | v1 | v1, st⟩
  · exact nomatch (show (none : Option Nx) = some (.inl q) from hex)
  · replace hex : (if okS ((n : Nat) : Int).toNat ls = true then goN _ (ls.set ((n : Nat) : Int).toNat (some (vI v1))) st M sh else none) = some (.inl q) := hex
    split at hex
    · rename_i hok
      obtain rfl := Sum.inl.inj (Option.some.inj hex)
      intro H locs lsA hX hS hL
      have hlt := okS_lt hok
      rw [hL.2] at hlt
      exact lv_istore cx.1 cx.2.1 hd hL.1 hlt rfl (fun ls' h' => k H locs ls' hX hS (hL.store1 hok h'))
    · exact nomatch hex
  · exact nomatch (show (none : Option Nx) = some (.inl q) from hex)
  · exact nomatch (show (none : Option Nx) = some (.inl q) from hex)
theorem x_istore_n {n : Fin 4} {op len : Nat} {a b : Int} {q : Nat × Lo × List AV × Mem × Sh} (cx : Cx p R s m args meth c Γ E y) (hd : decode (bcY y) pc = .ok (.istore_n n, len)) (hc : chkI y pc op a b len (.istore_n n) = true) (hex : exStep clO (sws y pc) y (op, a, b, pc + len) ls st M sh = some (.inl q)) (k : SW p l e R s m args below meth c Γ E y n0 k0 Q q.1 q.2.1 q.2.2.1 q.2.2.2.1 q.2.2.2.2) : SW p l e R s m args below meth c Γ E y n0 k0 Q pc ls st M sh := by
  simp only [chkI, Bool.and_eq_true, beq_iff_eq] at hc
  obtain ⟨⟨rfl, rfl⟩, rfl⟩ := hc
  rcases st with _ | ⟨v1 | v1 | v1, st⟩
  · exact nomatch (show (none : Option Nx) = some (.inl q) from hex)
  · replace hex : (if okS ((n : Nat) : Int).toNat ls = true then goN _ (ls.set ((n : Nat) : Int).toNat (some (vI v1))) st M sh else none) = some (.inl q) := hex
    split at hex
    · rename_i hok
      obtain rfl := Sum.inl.inj (Option.some.inj hex)
      intro H locs lsA hX hS hL
      have hlt := okS_lt hok
      rw [hL.2] at hlt
      exact lv_istore_n cx.1 cx.2.1 hd rfl hL.1 hlt rfl (fun ls' h' => k H locs ls' hX hS (hL.store1 hok h'))
    · exact nomatch hex
  · exact nomatch (show (none : Option Nx) = some (.inl q) from hex)
  · exact nomatch (show (none : Option Nx) = some (.inl q) from hex)
theorem x_astore {n : Nat} {op len : Nat} {a b : Int} {q : Nat × Lo × List AV × Mem × Sh} (cx : Cx p R s m args meth c Γ E y) (hd : decode (bcY y) pc = .ok (.astore n, len)) (hc : chkI y pc op a b len (.astore n) = true) (hex : exStep clO (sws y pc) y (op, a, b, pc + len) ls st M sh = some (.inl q)) (k : SW p l e R s m args below meth c Γ E y n0 k0 Q q.1 q.2.1 q.2.2.1 q.2.2.2.1 q.2.2.2.2) : SW p l e R s m args below meth c Γ E y n0 k0 Q pc ls st M sh := by
  simp only [chkI, Bool.and_eq_true, beq_iff_eq] at hc
  obtain ⟨⟨rfl, rfl⟩, rfl⟩ := hc
  rcases st with _ | ⟨v1 | v1 | v1, st⟩
  · exact nomatch (show (none : Option Nx) = some (.inl q) from hex)
  · exact nomatch (show (none : Option Nx) = some (.inl q) from hex)
  · exact nomatch (show (none : Option Nx) = some (.inl q) from hex)
  · replace hex : (if okS ((n : Nat) : Int).toNat ls = true then goN _ (ls.set ((n : Nat) : Int).toNat (some (vR v1))) st M sh else none) = some (.inl q) := hex
    split at hex
    · rename_i hok
      obtain rfl := Sum.inl.inj (Option.some.inj hex)
      intro H locs lsA hX hS hL
      have hlt := okS_lt hok
      rw [hL.2] at hlt
      exact W.astoreq cx.1 cx.2.1 hd hL.1 hlt rfl (fun ls' h' => k H locs ls' hX hS (hL.store1 hok h'))
    · exact nomatch hex
theorem x_astore_n {n : Fin 4} {op len : Nat} {a b : Int} {q : Nat × Lo × List AV × Mem × Sh} (cx : Cx p R s m args meth c Γ E y) (hd : decode (bcY y) pc = .ok (.astore_n n, len)) (hc : chkI y pc op a b len (.astore_n n) = true) (hex : exStep clO (sws y pc) y (op, a, b, pc + len) ls st M sh = some (.inl q)) (k : SW p l e R s m args below meth c Γ E y n0 k0 Q q.1 q.2.1 q.2.2.1 q.2.2.2.1 q.2.2.2.2) : SW p l e R s m args below meth c Γ E y n0 k0 Q pc ls st M sh := by
  simp only [chkI, Bool.and_eq_true, beq_iff_eq] at hc
  obtain ⟨⟨rfl, rfl⟩, rfl⟩ := hc
  rcases st with _ | ⟨v1 | v1 | v1, st⟩
  · exact nomatch (show (none : Option Nx) = some (.inl q) from hex)
  · exact nomatch (show (none : Option Nx) = some (.inl q) from hex)
  · exact nomatch (show (none : Option Nx) = some (.inl q) from hex)
  · replace hex : (if okS ((n : Nat) : Int).toNat ls = true then goN _ (ls.set ((n : Nat) : Int).toNat (some (vR v1))) st M sh else none) = some (.inl q) := hex
    split at hex
    · rename_i hok
      obtain rfl := Sum.inl.inj (Option.some.inj hex)
      intro H locs lsA hX hS hL
      have hlt := okS_lt hok
      rw [hL.2] at hlt
      exact W.astoreq_n cx.1 cx.2.1 hd hL.1 hlt rfl (fun ls' h' => k H locs ls' hX hS (hL.store1 hok h'))
    · exact nomatch hex
theorem x_lstore {n : Nat} {op len : Nat} {a b : Int} {q : Nat × Lo × List AV × Mem × Sh} (cx : Cx p R s m args meth c Γ E y) (hd : decode (bcY y) pc = .ok (.lstore n, len)) (hc : chkI y pc op a b len (.lstore n) = true) (hex : exStep clO (sws y pc) y (op, a, b, pc + len) ls st M sh = some (.inl q)) (k : SW p l e R s m args below meth c Γ E y n0 k0 Q q.1 q.2.1 q.2.2.1 q.2.2.2.1 q.2.2.2.2) : SW p l e R s m args below meth c Γ E y n0 k0 Q pc ls st M sh := by
  simp only [chkI, Bool.and_eq_true, beq_iff_eq] at hc
  obtain ⟨⟨rfl, rfl⟩, rfl⟩ := hc
  rcases st with _ | ⟨v1 | v1 | v1, st⟩
  · exact nomatch (show (none : Option Nx) = some (.inl q) from hex)
  · exact nomatch (show (none : Option Nx) = some (.inl q) from hex)
  · replace hex : (if okS ((n : Nat) : Int).toNat ls = true ∧ ((n : Nat) : Int).toNat + 1 < ls.length then goN _ ((ls.set ((n : Nat) : Int).toNat (some (vL v1))).set (((n : Nat) : Int).toNat + 1) none) st M sh else none) = some (.inl q) := hex
    split at hex
    · rename_i hok
      obtain rfl := Sum.inl.inj (Option.some.inj hex)
      intro H locs lsA hX hS hL
      have hlt := hok.2
      rw [hL.2] at hlt
      exact lv_lstore cx.1 cx.2.1 hd hL.1 hlt rfl (fun ls' h' => k H locs ls' hX hS (hL.store2 hok.1 hok.2 h'))
    · exact nomatch hex
  · exact nomatch (show (none : Option Nx) = some (.inl q) from hex)
theorem x_lstore_n {n : Fin 4} {op len : Nat} {a b : Int} {q : Nat × Lo × List AV × Mem × Sh} (cx : Cx p R s m args meth c Γ E y) (hd : decode (bcY y) pc = .ok (.lstore_n n, len)) (hc : chkI y pc op a b len (.lstore_n n) = true) (hex : exStep clO (sws y pc) y (op, a, b, pc + len) ls st M sh = some (.inl q)) (k : SW p l e R s m args below meth c Γ E y n0 k0 Q q.1 q.2.1 q.2.2.1 q.2.2.2.1 q.2.2.2.2) : SW p l e R s m args below meth c Γ E y n0 k0 Q pc ls st M sh := by
  simp only [chkI, Bool.and_eq_true, beq_iff_eq] at hc
  obtain ⟨⟨rfl, rfl⟩, rfl⟩ := hc
  rcases st with _ | ⟨v1 | v1 | v1, st⟩
  · exact nomatch (show (none : Option Nx) = some (.inl q) from hex)
  · exact nomatch (show (none : Option Nx) = some (.inl q) from hex)
  · replace hex : (if okS ((n : Nat) : Int).toNat ls = true ∧ ((n : Nat) : Int).toNat + 1 < ls.length then goN _ ((ls.set ((n : Nat) : Int).toNat (some (vL v1))).set (((n : Nat) : Int).toNat + 1) none) st M sh else none) = some (.inl q) := hex
    split at hex
    · rename_i hok
      obtain rfl := Sum.inl.inj (Option.some.inj hex)
      intro H locs lsA hX hS hL
      have hlt := hok.2
      rw [hL.2] at hlt
      exact lv_lstore_n cx.1 cx.2.1 hd rfl hL.1 hlt rfl (fun ls' h' => k H locs ls' hX hS (hL.store2 hok.1 hok.2 h'))
    · exact nomatch hex
  · exact nomatch (show (none : Option Nx) = some (.inl q) from hex)
theorem x_iinc {n : Nat} {z : Int} {op len : Nat} {a b : Int} {q : Nat × Lo × List AV × Mem × Sh} (cx : Cx p R s m args meth c Γ E y) (hd : decode (bcY y) pc = .ok (.iinc n z, len)) (hc : chkI y pc op a b len (.iinc n z) = true) (hex : exStep clO (sws y pc) y (op, a, b, pc + len) ls st M sh = some (.inl q)) (k : SW p l e R s m args below meth c Γ E y n0 k0 Q q.1 q.2.1 q.2.2.1 q.2.2.2.1 q.2.2.2.2) : SW p l e R s m args below meth c Γ E y n0 k0 Q pc ls st M sh := by
  simp only [chkI, Bool.and_eq_true, beq_iff_eq] at hc
  obtain ⟨⟨⟨rfl, rfl⟩, rfl⟩, rfl⟩ := hc
  replace hex : (match ls[((n : Nat) : Int).toNat]? with
    | some (some (.inl x)) => if okS ((n : Nat) : Int).toNat ls = true then goN (pc + 3) (ls.set ((n : Nat) : Int).toNat (some (vI (x + b)))) st M sh else none
    | _ => (none : Option Nx)) = some (.inl q) := hex
  rcases hx : ls[((n : Nat) : Int).toNat]? with _ | _ | x | x | x <;> rw [hx] at hex
  · exact nomatch (show (none : Option Nx) = some (.inl q) from hex)
  · exact nomatch (show (none : Option Nx) = some (.inl q) from hex)
  · replace hex : (if okS ((n : Nat) : Int).toNat ls = true then goN (pc + 3) (ls.set ((n : Nat) : Int).toNat (some (vI (x + b)))) st M sh else none) = some (.inl q) := hex
    split at hex
    · rename_i hok
      obtain rfl := Sum.inl.inj (Option.some.inj hex)
      intro H locs lsA hX hS hL
      have hlt := okS_lt hok
      rw [hL.2] at hlt
      obtain ⟨j, hj⟩ := List.getElem?_of_mem (lvl_mem (Γ := Γ) (q := (n, .int (Int32.ofInt x))).mpr ⟨vI x, hx, rfl⟩)
      exact lv_iinc cx.1 cx.2.1 hd hL.1 hj (Int32.ofInt_add ..).symm hlt rfl (fun ls' h' => k H locs ls' hX hS (hL.store1 (v := vI (x + b)) hok h'))
    · exact nomatch hex
  · exact nomatch (show (none : Option Nx) = some (.inl q) from hex)
  · exact nomatch (show (none : Option Nx) = some (.inl q) from hex)
theorem x_pop {op len : Nat} {a b : Int} {q : Nat × Lo × List AV × Mem × Sh} (cx : Cx p R s m args meth c Γ E y) (hd : decode (bcY y) pc = .ok (.pop, len)) (hc : chkI y pc op a b len (.pop) = true) (hex : exStep clO (sws y pc) y (op, a, b, pc + len) ls st M sh = some (.inl q)) (k : SW p l e R s m args below meth c Γ E y n0 k0 Q q.1 q.2.1 q.2.2.1 q.2.2.2.1 q.2.2.2.2) : SW p l e R s m args below meth c Γ E y n0 k0 Q pc ls st M sh := by
  simp only [chkI, Bool.and_eq_true, beq_iff_eq] at hc
  obtain ⟨rfl, rfl⟩ := hc
  rcases st with _ | ⟨v, st⟩
  · exact nomatch (show (none : Option Nx) = some (.inl q) from hex)
  replace hex : (if isW v = false then goN _ ls st M sh else none) = some (.inl q) := hex
  split at hex
  · rename_i hw
    obtain rfl := Sum.inl.inj (Option.some.inj hex)
    intro H locs lsA hX hS hL
    exact lv_pop cx.1 cx.2.1 hd (by rw [vl_cat]; rcases v with x | x | x <;> first | rfl | exact nomatch hw) (k H locs lsA hX hS hL)
  · exact nomatch hex
theorem x_dup {op len : Nat} {a b : Int} {q : Nat × Lo × List AV × Mem × Sh} (cx : Cx p R s m args meth c Γ E y) (hd : decode (bcY y) pc = .ok (.dup, len)) (hc : chkI y pc op a b len (.dup) = true) (hex : exStep clO (sws y pc) y (op, a, b, pc + len) ls st M sh = some (.inl q)) (k : SW p l e R s m args below meth c Γ E y n0 k0 Q q.1 q.2.1 q.2.2.1 q.2.2.2.1 q.2.2.2.2) : SW p l e R s m args below meth c Γ E y n0 k0 Q pc ls st M sh := by
  simp only [chkI, Bool.and_eq_true, beq_iff_eq] at hc
  obtain ⟨rfl, rfl⟩ := hc
  rcases st with _ | ⟨v, st⟩
  · exact nomatch (show (none : Option Nx) = some (.inl q) from hex)
  replace hex : (if isW v = false then goN _ ls (v :: v :: st) M sh else none) = some (.inl q) := hex
  split at hex
  · rename_i hw
    obtain rfl := Sum.inl.inj (Option.some.inj hex)
    intro H locs lsA hX hS hL
    exact lv_dup cx.1 cx.2.1 hd (by rw [vl_cat]; rcases v with x | x | x <;> first | rfl | exact nomatch hw) (k H locs lsA hX hS hL)
  · exact nomatch hex
theorem x_dup2 {op len : Nat} {a b : Int} {q : Nat × Lo × List AV × Mem × Sh} (cx : Cx p R s m args meth c Γ E y) (hd : decode (bcY y) pc = .ok (.dup2, len)) (hc : chkI y pc op a b len (.dup2) = true) (hex : exStep clO (sws y pc) y (op, a, b, pc + len) ls st M sh = some (.inl q)) (k : SW p l e R s m args below meth c Γ E y n0 k0 Q q.1 q.2.1 q.2.2.1 q.2.2.2.1 q.2.2.2.2) : SW p l e R s m args below meth c Γ E y n0 k0 Q pc ls st M sh := by
  simp only [chkI, Bool.and_eq_true, beq_iff_eq] at hc
  obtain ⟨rfl, rfl⟩ := hc
  rcases st with _ | ⟨u, _ | ⟨v, st⟩⟩
  · exact nomatch (show (none : Option Nx) = some (.inl q) from hex)
  · exact nomatch (show (none : Option Nx) = some (.inl q) from hex)
  replace hex : (if isW u = false ∧ isW v = false then goN _ ls (u :: v :: u :: v :: st) M sh else none) = some (.inl q) := hex
  split at hex
  · rename_i hw
    obtain rfl := Sum.inl.inj (Option.some.inj hex)
    intro H locs lsA hX hS hL
    exact lv_dup2_11 cx.1 cx.2.1 hd (by rw [vl_cat]; rcases u with x | x | x <;> first | rfl | exact nomatch hw.1) (by rw [vl_cat]; rcases v with x | x | x <;> first | rfl | exact nomatch hw.2) (k H locs lsA hX hS hL)
  · exact nomatch hex
theorem x_iadd {op len : Nat} {a b : Int} {q : Nat × Lo × List AV × Mem × Sh} (cx : Cx p R s m args meth c Γ E y) (hd : decode (bcY y) pc = .ok (.iadd, len)) (hc : chkI y pc op a b len (.iadd) = true) (hex : exStep clO (sws y pc) y (op, a, b, pc + len) ls st M sh = some (.inl q)) (k : SW p l e R s m args below meth c Γ E y n0 k0 Q q.1 q.2.1 q.2.2.1 q.2.2.2.1 q.2.2.2.2) : SW p l e R s m args below meth c Γ E y n0 k0 Q pc ls st M sh := by
  simp only [chkI, Bool.and_eq_true, beq_iff_eq] at hc
  obtain ⟨rfl, rfl⟩ := hc
  rcases st with _ | ⟨v1 | v1 | v1, st⟩
  · exact nomatch (show (none : Option Nx) = some (.inl q) from hex)
  · rcases st with _ | ⟨v2 | v2 | v2, st⟩
    · exact nomatch (show (none : Option Nx) = some (.inl q) from hex)
    · obtain rfl := Sum.inl.inj (Option.some.inj hex)
      intro H locs lsA hX hS hL
      exact lv_iadd cx.1 cx.2.1 hd (W.stk (congrArg Value.int (Int32.ofInt_add ..)) (k H locs lsA hX hS hL))
    · exact nomatch (show (none : Option Nx) = some (.inl q) from hex)
    · exact nomatch (show (none : Option Nx) = some (.inl q) from hex)
  · exact nomatch (show (none : Option Nx) = some (.inl q) from hex)
  · exact nomatch (show (none : Option Nx) = some (.inl q) from hex)
theorem x_isub {op len : Nat} {a b : Int} {q : Nat × Lo × List AV × Mem × Sh} (cx : Cx p R s m args meth c Γ E y) (hd : decode (bcY y) pc = .ok (.isub, len)) (hc : chkI y pc op a b len (.isub) = true) (hex : exStep clO (sws y pc) y (op, a, b, pc + len) ls st M sh = some (.inl q)) (k : SW p l e R s m args below meth c Γ E y n0 k0 Q q.1 q.2.1 q.2.2.1 q.2.2.2.1 q.2.2.2.2) : SW p l e R s m args below meth c Γ E y n0 k0 Q pc ls st M sh := by
  simp only [chkI, Bool.and_eq_true, beq_iff_eq] at hc
  obtain ⟨rfl, rfl⟩ := hc
  rcases st with _ | ⟨v1 | v1 | v1, st⟩
  · exact nomatch (show (none : Option Nx) = some (.inl q) from hex)
  · rcases st with _ | ⟨v2 | v2 | v2, st⟩
    · exact nomatch (show (none : Option Nx) = some (.inl q) from hex)
    · obtain rfl := Sum.inl.inj (Option.some.inj hex)
      intro H locs lsA hX hS hL
      exact lv_isub cx.1 cx.2.1 hd (W.stk (congrArg Value.int (Int32.ofInt_sub ..)) (k H locs lsA hX hS hL))
    · exact nomatch (show (none : Option Nx) = some (.inl q) from hex)
    · exact nomatch (show (none : Option Nx) = some (.inl q) from hex)
  · exact nomatch (show (none : Option Nx) = some (.inl q) from hex)
  · exact nomatch (show (none : Option Nx) = some (.inl q) from hex)
theorem x_imul {op len : Nat} {a b : Int} {q : Nat × Lo × List AV × Mem × Sh} (cx : Cx p R s m args meth c Γ E y) (hd : decode (bcY y) pc = .ok (.imul, len)) (hc : chkI y pc op a b len (.imul) = true) (hex : exStep clO (sws y pc) y (op, a, b, pc + len) ls st M sh = some (.inl q)) (k : SW p l e R s m args below meth c Γ E y n0 k0 Q q.1 q.2.1 q.2.2.1 q.2.2.2.1 q.2.2.2.2) : SW p l e R s m args below meth c Γ E y n0 k0 Q pc ls st M sh := by
  simp only [chkI, Bool.and_eq_true, beq_iff_eq] at hc
  obtain ⟨rfl, rfl⟩ := hc
  rcases st with _ | ⟨v1 | v1 | v1, st⟩
  · exact nomatch (show (none : Option Nx) = some (.inl q) from hex)
  · rcases st with _ | ⟨v2 | v2 | v2, st⟩
    · exact nomatch (show (none : Option Nx) = some (.inl q) from hex)
    · obtain rfl := Sum.inl.inj (Option.some.inj hex)
      intro H locs lsA hX hS hL
      exact lv_imul cx.1 cx.2.1 hd (W.stk (congrArg Value.int (Int32.ofInt_mul ..)) (k H locs lsA hX hS hL))
    · exact nomatch (show (none : Option Nx) = some (.inl q) from hex)
    · exact nomatch (show (none : Option Nx) = some (.inl q) from hex)
  · exact nomatch (show (none : Option Nx) = some (.inl q) from hex)
  · exact nomatch (show (none : Option Nx) = some (.inl q) from hex)
theorem x_iand {op len : Nat} {a b : Int} {q : Nat × Lo × List AV × Mem × Sh} (cx : Cx p R s m args meth c Γ E y) (hd : decode (bcY y) pc = .ok (.iand, len)) (hc : chkI y pc op a b len (.iand) = true) (hex : exStep clO (sws y pc) y (op, a, b, pc + len) ls st M sh = some (.inl q)) (k : SW p l e R s m args below meth c Γ E y n0 k0 Q q.1 q.2.1 q.2.2.1 q.2.2.2.1 q.2.2.2.2) : SW p l e R s m args below meth c Γ E y n0 k0 Q pc ls st M sh := by
  simp only [chkI, Bool.and_eq_true, beq_iff_eq] at hc
  obtain ⟨rfl, rfl⟩ := hc
  rcases st with _ | ⟨v1 | v1 | v1, st⟩
  · exact nomatch (show (none : Option Nx) = some (.inl q) from hex)
  · rcases st with _ | ⟨v2 | v2 | v2, st⟩
    · exact nomatch (show (none : Option Nx) = some (.inl q) from hex)
    · obtain rfl := Sum.inl.inj (Option.some.inj hex)
      intro H locs lsA hX hS hL
      exact lv_iand cx.1 cx.2.1 hd (W.stk (congrArg Value.int (n_and v2 v1)) (k H locs lsA hX hS hL))
    · exact nomatch (show (none : Option Nx) = some (.inl q) from hex)
    · exact nomatch (show (none : Option Nx) = some (.inl q) from hex)
  · exact nomatch (show (none : Option Nx) = some (.inl q) from hex)
  · exact nomatch (show (none : Option Nx) = some (.inl q) from hex)
theorem x_ior {op len : Nat} {a b : Int} {q : Nat × Lo × List AV × Mem × Sh} (cx : Cx p R s m args meth c Γ E y) (hd : decode (bcY y) pc = .ok (.ior, len)) (hc : chkI y pc op a b len (.ior) = true) (hex : exStep clO (sws y pc) y (op, a, b, pc + len) ls st M sh = some (.inl q)) (k : SW p l e R s m args below meth c Γ E y n0 k0 Q q.1 q.2.1 q.2.2.1 q.2.2.2.1 q.2.2.2.2) : SW p l e R s m args below meth c Γ E y n0 k0 Q pc ls st M sh := by
  simp only [chkI, Bool.and_eq_true, beq_iff_eq] at hc
  obtain ⟨rfl, rfl⟩ := hc
  rcases st with _ | ⟨v1 | v1 | v1, st⟩
  · exact nomatch (show (none : Option Nx) = some (.inl q) from hex)
  · rcases st with _ | ⟨v2 | v2 | v2, st⟩
    · exact nomatch (show (none : Option Nx) = some (.inl q) from hex)
    · obtain rfl := Sum.inl.inj (Option.some.inj hex)
      intro H locs lsA hX hS hL
      exact lv_ior cx.1 cx.2.1 hd (W.stk (congrArg Value.int (n_or v2 v1)) (k H locs lsA hX hS hL))
    · exact nomatch (show (none : Option Nx) = some (.inl q) from hex)
    · exact nomatch (show (none : Option Nx) = some (.inl q) from hex)
  · exact nomatch (show (none : Option Nx) = some (.inl q) from hex)
  · exact nomatch (show (none : Option Nx) = some (.inl q) from hex)
theorem x_ladd {op len : Nat} {a b : Int} {q : Nat × Lo × List AV × Mem × Sh} (cx : Cx p R s m args meth c Γ E y) (hd : decode (bcY y) pc = .ok (.ladd, len)) (hc : chkI y pc op a b len (.ladd) = true) (hex : exStep clO (sws y pc) y (op, a, b, pc + len) ls st M sh = some (.inl q)) (k : SW p l e R s m args below meth c Γ E y n0 k0 Q q.1 q.2.1 q.2.2.1 q.2.2.2.1 q.2.2.2.2) : SW p l e R s m args below meth c Γ E y n0 k0 Q pc ls st M sh := by
  simp only [chkI, Bool.and_eq_true, beq_iff_eq] at hc
  obtain ⟨rfl, rfl⟩ := hc
  rcases st with _ | ⟨v1 | v1 | v1, st⟩
  · exact nomatch (show (none : Option Nx) = some (.inl q) from hex)
  · exact nomatch (show (none : Option Nx) = some (.inl q) from hex)
  · rcases st with _ | ⟨v2 | v2 | v2, st⟩
    · exact nomatch (show (none : Option Nx) = some (.inl q) from hex)
    · exact nomatch (show (none : Option Nx) = some (.inl q) from hex)
    · obtain rfl := Sum.inl.inj (Option.some.inj hex)
      intro H locs lsA hX hS hL
      exact lv_ladd cx.1 cx.2.1 hd (W.stk (congrArg Value.long (Int64.ofInt_add ..)) (k H locs lsA hX hS hL))
    · exact nomatch (show (none : Option Nx) = some (.inl q) from hex)
  · exact nomatch (show (none : Option Nx) = some (.inl q) from hex)
theorem x_lsub {op len : Nat} {a b : Int} {q : Nat × Lo × List AV × Mem × Sh} (cx : Cx p R s m args meth c Γ E y) (hd : decode (bcY y) pc = .ok (.lsub, len)) (hc : chkI y pc op a b len (.lsub) = true) (hex : exStep clO (sws y pc) y (op, a, b, pc + len) ls st M sh = some (.inl q)) (k : SW p l e R s m args below meth c Γ E y n0 k0 Q q.1 q.2.1 q.2.2.1 q.2.2.2.1 q.2.2.2.2) : SW p l e R s m args below meth c Γ E y n0 k0 Q pc ls st M sh := by
  simp only [chkI, Bool.and_eq_true, beq_iff_eq] at hc
  obtain ⟨rfl, rfl⟩ := hc
  rcases st with _ | ⟨v1 | v1 | v1, st⟩
  · exact nomatch (show (none : Option Nx) = some (.inl q) from hex)
  · exact nomatch (show (none : Option Nx) = some (.inl q) from hex)
  · rcases st with _ | ⟨v2 | v2 | v2, st⟩
    · exact nomatch (show (none : Option Nx) = some (.inl q) from hex)
    · exact nomatch (show (none : Option Nx) = some (.inl q) from hex)
    · obtain rfl := Sum.inl.inj (Option.some.inj hex)
      intro H locs lsA hX hS hL
      exact lv_lsub cx.1 cx.2.1 hd (W.stk (congrArg Value.long (Int64.ofInt_sub ..)) (k H locs lsA hX hS hL))
    · exact nomatch (show (none : Option Nx) = some (.inl q) from hex)
  · exact nomatch (show (none : Option Nx) = some (.inl q) from hex)
theorem x_lmul {op len : Nat} {a b : Int} {q : Nat × Lo × List AV × Mem × Sh} (cx : Cx p R s m args meth c Γ E y) (hd : decode (bcY y) pc = .ok (.lmul, len)) (hc : chkI y pc op a b len (.lmul) = true) (hex : exStep clO (sws y pc) y (op, a, b, pc + len) ls st M sh = some (.inl q)) (k : SW p l e R s m args below meth c Γ E y n0 k0 Q q.1 q.2.1 q.2.2.1 q.2.2.2.1 q.2.2.2.2) : SW p l e R s m args below meth c Γ E y n0 k0 Q pc ls st M sh := by
  simp only [chkI, Bool.and_eq_true, beq_iff_eq] at hc
  obtain ⟨rfl, rfl⟩ := hc
  rcases st with _ | ⟨v1 | v1 | v1, st⟩
  · exact nomatch (show (none : Option Nx) = some (.inl q) from hex)
  · exact nomatch (show (none : Option Nx) = some (.inl q) from hex)
  · rcases st with _ | ⟨v2 | v2 | v2, st⟩
    · exact nomatch (show (none : Option Nx) = some (.inl q) from hex)
    · exact nomatch (show (none : Option Nx) = some (.inl q) from hex)
    · obtain rfl := Sum.inl.inj (Option.some.inj hex)
      intro H locs lsA hX hS hL
      exact lv_lmul cx.1 cx.2.1 hd (W.stk (congrArg Value.long (Int64.ofInt_mul ..)) (k H locs lsA hX hS hL))
    · exact nomatch (show (none : Option Nx) = some (.inl q) from hex)
  · exact nomatch (show (none : Option Nx) = some (.inl q) from hex)
theorem x_land {op len : Nat} {a b : Int} {q : Nat × Lo × List AV × Mem × Sh} (cx : Cx p R s m args meth c Γ E y) (hd : decode (bcY y) pc = .ok (.land, len)) (hc : chkI y pc op a b len (.land) = true) (hex : exStep clO (sws y pc) y (op, a, b, pc + len) ls st M sh = some (.inl q)) (k : SW p l e R s m args below meth c Γ E y n0 k0 Q q.1 q.2.1 q.2.2.1 q.2.2.2.1 q.2.2.2.2) : SW p l e R s m args below meth c Γ E y n0 k0 Q pc ls st M sh := by
  simp only [chkI, Bool.and_eq_true, beq_iff_eq] at hc
  obtain ⟨rfl, rfl⟩ := hc
  rcases st with _ | ⟨v1 | v1 | v1, st⟩
  · exact nomatch (show (none : Option Nx) = some (.inl q) from hex)
  · exact nomatch (show (none : Option Nx) = some (.inl q) from hex)
  · rcases st with _ | ⟨v2 | v2 | v2, st⟩
    · exact nomatch (show (none : Option Nx) = some (.inl q) from hex)
    · exact nomatch (show (none : Option Nx) = some (.inl q) from hex)
    · obtain rfl := Sum.inl.inj (Option.some.inj hex)
      intro H locs lsA hX hS hL
      exact lv_land cx.1 cx.2.1 hd (W.stk (congrArg Value.long (n_andL v2 v1)) (k H locs lsA hX hS hL))
    · exact nomatch (show (none : Option Nx) = some (.inl q) from hex)
  · exact nomatch (show (none : Option Nx) = some (.inl q) from hex)
theorem x_lor {op len : Nat} {a b : Int} {q : Nat × Lo × List AV × Mem × Sh} (cx : Cx p R s m args meth c Γ E y) (hd : decode (bcY y) pc = .ok (.lor, len)) (hc : chkI y pc op a b len (.lor) = true) (hex : exStep clO (sws y pc) y (op, a, b, pc + len) ls st M sh = some (.inl q)) (k : SW p l e R s m args below meth c Γ E y n0 k0 Q q.1 q.2.1 q.2.2.1 q.2.2.2.1 q.2.2.2.2) : SW p l e R s m args below meth c Γ E y n0 k0 Q pc ls st M sh := by
  simp only [chkI, Bool.and_eq_true, beq_iff_eq] at hc
  obtain ⟨rfl, rfl⟩ := hc
  rcases st with _ | ⟨v1 | v1 | v1, st⟩
  · exact nomatch (show (none : Option Nx) = some (.inl q) from hex)
  · exact nomatch (show (none : Option Nx) = some (.inl q) from hex)
  · rcases st with _ | ⟨v2 | v2 | v2, st⟩
    · exact nomatch (show (none : Option Nx) = some (.inl q) from hex)
    · exact nomatch (show (none : Option Nx) = some (.inl q) from hex)
    · obtain rfl := Sum.inl.inj (Option.some.inj hex)
      intro H locs lsA hX hS hL
      exact lv_lor cx.1 cx.2.1 hd (W.stk (congrArg Value.long (n_orL v2 v1)) (k H locs lsA hX hS hL))
    · exact nomatch (show (none : Option Nx) = some (.inl q) from hex)
  · exact nomatch (show (none : Option Nx) = some (.inl q) from hex)
theorem x_irem {op len : Nat} {a b : Int} {q : Nat × Lo × List AV × Mem × Sh} (cx : Cx p R s m args meth c Γ E y) (hd : decode (bcY y) pc = .ok (.irem, len)) (hc : chkI y pc op a b len (.irem) = true) (hex : exStep clO (sws y pc) y (op, a, b, pc + len) ls st M sh = some (.inl q)) (k : SW p l e R s m args below meth c Γ E y n0 k0 Q q.1 q.2.1 q.2.2.1 q.2.2.2.1 q.2.2.2.2) : SW p l e R s m args below meth c Γ E y n0 k0 Q pc ls st M sh := by
  simp only [chkI, Bool.and_eq_true, beq_iff_eq] at hc
  obtain ⟨rfl, rfl⟩ := hc
  rcases st with _ | ⟨v1 | v1 | v1, st⟩
  · exact nomatch (show (none : Option Nx) = some (.inl q) from hex)
  · rcases st with _ | ⟨v2 | v2 | v2, st⟩
    · exact nomatch (show (none : Option Nx) = some (.inl q) from hex)
    · replace hex : (if 0 < v1 ∧ -2147483648 ≤ v2 ∧ v2 < 2147483648 ∧ v1 < 2147483648 then some (vI (v2.tmod v1)) else none).bind (fun w => goN _ ls (w :: st) M sh) = some (.inl q) := hex
      split at hex
      · rename_i hg
        obtain rfl := Sum.inl.inj (Option.some.inj hex)
        intro H locs lsA hX hS hL
        exact lv_irem cx.1 cx.2.1 hd (n_ne0 hg.1 hg.2.2.2) (W.stk (congrArg Value.int (n_irem hg.1 hg.2.1 hg.2.2.1 hg.2.2.2).symm) (k H locs lsA hX hS hL))
      · exact nomatch hex
    · exact nomatch (show (none : Option Nx) = some (.inl q) from hex)
    · exact nomatch (show (none : Option Nx) = some (.inl q) from hex)
  · exact nomatch (show (none : Option Nx) = some (.inl q) from hex)
  · exact nomatch (show (none : Option Nx) = some (.inl q) from hex)
theorem x_ishl {op len : Nat} {a b : Int} {q : Nat × Lo × List AV × Mem × Sh} (cx : Cx p R s m args meth c Γ E y) (hd : decode (bcY y) pc = .ok (.ishl, len)) (hc : chkI y pc op a b len (.ishl) = true) (hex : exStep clO (sws y pc) y (op, a, b, pc + len) ls st M sh = some (.inl q)) (k : SW p l e R s m args below meth c Γ E y n0 k0 Q q.1 q.2.1 q.2.2.1 q.2.2.2.1 q.2.2.2.2) : SW p l e R s m args below meth c Γ E y n0 k0 Q pc ls st M sh := by
  simp only [chkI, Bool.and_eq_true, beq_iff_eq] at hc
  obtain ⟨rfl, rfl⟩ := hc
  rcases st with _ | ⟨v1 | v1 | v1, st⟩
  · exact nomatch (show (none : Option Nx) = some (.inl q) from hex)
  · rcases st with _ | ⟨v2 | v2 | v2, st⟩
    · exact nomatch (show (none : Option Nx) = some (.inl q) from hex)
    · replace hex : (if 0 ≤ v1 ∧ v1 < 32 then some (vI (v2 * 2 ^ v1.toNat)) else none).bind (fun w => goN _ ls (w :: st) M sh) = some (.inl q) := hex
      split at hex
      · rename_i hg
        obtain rfl := Sum.inl.inj (Option.some.inj hex)
        intro H locs lsA hX hS hL
        exact lv_ishl cx.1 cx.2.1 hd (W.stk (congrArg Value.int (n_ishl hg.1 hg.2).symm) (k H locs lsA hX hS hL))
      · exact nomatch hex
    · exact nomatch (show (none : Option Nx) = some (.inl q) from hex)
    · exact nomatch (show (none : Option Nx) = some (.inl q) from hex)
  · exact nomatch (show (none : Option Nx) = some (.inl q) from hex)
  · exact nomatch (show (none : Option Nx) = some (.inl q) from hex)
theorem x_ishr {op len : Nat} {a b : Int} {q : Nat × Lo × List AV × Mem × Sh} (cx : Cx p R s m args meth c Γ E y) (hd : decode (bcY y) pc = .ok (.ishr, len)) (hc : chkI y pc op a b len (.ishr) = true) (hex : exStep clO (sws y pc) y (op, a, b, pc + len) ls st M sh = some (.inl q)) (k : SW p l e R s m args below meth c Γ E y n0 k0 Q q.1 q.2.1 q.2.2.1 q.2.2.2.1 q.2.2.2.2) : SW p l e R s m args below meth c Γ E y n0 k0 Q pc ls st M sh := by
  simp only [chkI, Bool.and_eq_true, beq_iff_eq] at hc
  obtain ⟨rfl, rfl⟩ := hc
  rcases st with _ | ⟨v1 | v1 | v1, st⟩
  · exact nomatch (show (none : Option Nx) = some (.inl q) from hex)
  · rcases st with _ | ⟨v2 | v2 | v2, st⟩
    · exact nomatch (show (none : Option Nx) = some (.inl q) from hex)
    · replace hex : (if 0 ≤ v1 ∧ v1 < 32 ∧ -2147483648 ≤ v2 ∧ v2 < 2147483648 then some (vI (v2 / 2 ^ v1.toNat)) else none).bind (fun w => goN _ ls (w :: st) M sh) = some (.inl q) := hex
      split at hex
      · rename_i hg
        obtain rfl := Sum.inl.inj (Option.some.inj hex)
        intro H locs lsA hX hS hL
        exact lv_ishr cx.1 cx.2.1 hd (W.stk (congrArg Value.int (n_ishr hg.1 hg.2.1 hg.2.2.1 hg.2.2.2).symm) (k H locs lsA hX hS hL))
      · exact nomatch hex
    · exact nomatch (show (none : Option Nx) = some (.inl q) from hex)
    · exact nomatch (show (none : Option Nx) = some (.inl q) from hex)
  · exact nomatch (show (none : Option Nx) = some (.inl q) from hex)
  · exact nomatch (show (none : Option Nx) = some (.inl q) from hex)
theorem x_iushr {op len : Nat} {a b : Int} {q : Nat × Lo × List AV × Mem × Sh} (cx : Cx p R s m args meth c Γ E y) (hd : decode (bcY y) pc = .ok (.iushr, len)) (hc : chkI y pc op a b len (.iushr) = true) (hex : exStep clO (sws y pc) y (op, a, b, pc + len) ls st M sh = some (.inl q)) (k : SW p l e R s m args below meth c Γ E y n0 k0 Q q.1 q.2.1 q.2.2.1 q.2.2.2.1 q.2.2.2.2) : SW p l e R s m args below meth c Γ E y n0 k0 Q pc ls st M sh := by
  simp only [chkI, Bool.and_eq_true, beq_iff_eq] at hc
  obtain ⟨rfl, rfl⟩ := hc
  rcases st with _ | ⟨v1 | v1 | v1, st⟩
  · exact nomatch (show (none : Option Nx) = some (.inl q) from hex)
  · rcases st with _ | ⟨v2 | v2 | v2, st⟩
    · exact nomatch (show (none : Option Nx) = some (.inl q) from hex)
    · replace hex : (if 0 ≤ v1 ∧ v1 < 32 then some (vI (v2 % 4294967296 / 2 ^ v1.toNat)) else none).bind (fun w => goN _ ls (w :: st) M sh) = some (.inl q) := hex
      split at hex
      · rename_i hg
        obtain rfl := Sum.inl.inj (Option.some.inj hex)
        intro H locs lsA hX hS hL
        exact lv_iushr cx.1 cx.2.1 hd (n_iushr hg.1 hg.2) (k H locs lsA hX hS hL)
      · exact nomatch hex
    · exact nomatch (show (none : Option Nx) = some (.inl q) from hex)
    · exact nomatch (show (none : Option Nx) = some (.inl q) from hex)
  · exact nomatch (show (none : Option Nx) = some (.inl q) from hex)
  · exact nomatch (show (none : Option Nx) = some (.inl q) from hex)
theorem x_ldiv {op len : Nat} {a b : Int} {q : Nat × Lo × List AV × Mem × Sh} (cx : Cx p R s m args meth c Γ E y) (hd : decode (bcY y) pc = .ok (.ldiv, len)) (hc : chkI y pc op a b len (.ldiv) = true) (hex : exStep clO (sws y pc) y (op, a, b, pc + len) ls st M sh = some (.inl q)) (k : SW p l e R s m args below meth c Γ E y n0 k0 Q q.1 q.2.1 q.2.2.1 q.2.2.2.1 q.2.2.2.2) : SW p l e R s m args below meth c Γ E y n0 k0 Q pc ls st M sh := by
  simp only [chkI, Bool.and_eq_true, beq_iff_eq] at hc
  obtain ⟨rfl, rfl⟩ := hc
  rcases st with _ | ⟨v1 | v1 | v1, st⟩
  · exact nomatch (show (none : Option Nx) = some (.inl q) from hex)
  · exact nomatch (show (none : Option Nx) = some (.inl q) from hex)
  · rcases st with _ | ⟨v2 | v2 | v2, st⟩
    · exact nomatch (show (none : Option Nx) = some (.inl q) from hex)
    · exact nomatch (show (none : Option Nx) = some (.inl q) from hex)
    · replace hex : (if 0 ≤ v2 ∧ v2 < 9223372036854775808 ∧ 0 < v1 ∧ v1 < 9223372036854775808 then some (vL (v2 / v1)) else none).bind (fun w => goN _ ls (w :: st) M sh) = some (.inl q) := hex
      split at hex
      · rename_i hg
        obtain rfl := Sum.inl.inj (Option.some.inj hex)
        intro H locs lsA hX hS hL
        exact lv_ldiv cx.1 cx.2.1 hd (n_ne0L hg.2.2.1 hg.2.2.2) (W.stk (congrArg Value.long (n_ldiv hg.1 hg.2.1 hg.2.2.1 hg.2.2.2).symm) (k H locs lsA hX hS hL))
      · exact nomatch hex
    · exact nomatch (show (none : Option Nx) = some (.inl q) from hex)
  · exact nomatch (show (none : Option Nx) = some (.inl q) from hex)
theorem x_lrem {op len : Nat} {a b : Int} {q : Nat × Lo × List AV × Mem × Sh} (cx : Cx p R s m args meth c Γ E y) (hd : decode (bcY y) pc = .ok (.lrem, len)) (hc : chkI y pc op a b len (.lrem) = true) (hex : exStep clO (sws y pc) y (op, a, b, pc + len) ls st M sh = some (.inl q)) (k : SW p l e R s m args below meth c Γ E y n0 k0 Q q.1 q.2.1 q.2.2.1 q.2.2.2.1 q.2.2.2.2) : SW p l e R s m args below meth c Γ E y n0 k0 Q pc ls st M sh := by
  simp only [chkI, Bool.and_eq_true, beq_iff_eq] at hc
  obtain ⟨rfl, rfl⟩ := hc
  rcases st with _ | ⟨v1 | v1 | v1, st⟩
  · exact nomatch (show (none : Option Nx) = some (.inl q) from hex)
  · exact nomatch (show (none : Option Nx) = some (.inl q) from hex)
  · rcases st with _ | ⟨v2 | v2 | v2, st⟩
    · exact nomatch (show (none : Option Nx) = some (.inl q) from hex)
    · exact nomatch (show (none : Option Nx) = some (.inl q) from hex)
    · replace hex : (if 0 ≤ v2 ∧ v2 < 9223372036854775808 ∧ 0 < v1 ∧ v1 < 9223372036854775808 then some (vL (v2 % v1)) else none).bind (fun w => goN _ ls (w :: st) M sh) = some (.inl q) := hex
      split at hex
      · rename_i hg
        obtain rfl := Sum.inl.inj (Option.some.inj hex)
        intro H locs lsA hX hS hL
        exact lv_lrem cx.1 cx.2.1 hd (n_ne0L hg.2.2.1 hg.2.2.2) (W.stk (congrArg Value.long (n_lrem hg.1 hg.2.1 hg.2.2.1 hg.2.2.2).symm) (k H locs lsA hX hS hL))
      · exact nomatch hex
    · exact nomatch (show (none : Option Nx) = some (.inl q) from hex)
  · exact nomatch (show (none : Option Nx) = some (.inl q) from hex)
theorem x_lshl {op len : Nat} {a b : Int} {q : Nat × Lo × List AV × Mem × Sh} (cx : Cx p R s m args meth c Γ E y) (hd : decode (bcY y) pc = .ok (.lshl, len)) (hc : chkI y pc op a b len (.lshl) = true) (hex : exStep clO (sws y pc) y (op, a, b, pc + len) ls st M sh = some (.inl q)) (k : SW p l e R s m args below meth c Γ E y n0 k0 Q q.1 q.2.1 q.2.2.1 q.2.2.2.1 q.2.2.2.2) : SW p l e R s m args below meth c Γ E y n0 k0 Q pc ls st M sh := by
  simp only [chkI, Bool.and_eq_true, beq_iff_eq] at hc
  obtain ⟨rfl, rfl⟩ := hc
  rcases st with _ | ⟨v1 | v1 | v1, st⟩
  · exact nomatch (show (none : Option Nx) = some (.inl q) from hex)
  · rcases st with _ | ⟨v2 | v2 | v2, st⟩
    · exact nomatch (show (none : Option Nx) = some (.inl q) from hex)
    · exact nomatch (show (none : Option Nx) = some (.inl q) from hex)
    · replace hex : (if 0 ≤ v1 ∧ v1 < 64 then some (vL (v2 * 2 ^ v1.toNat)) else none).bind (fun w => goN _ ls (w :: st) M sh) = some (.inl q) := hex
      split at hex
      · rename_i hg
        obtain rfl := Sum.inl.inj (Option.some.inj hex)
        intro H locs lsA hX hS hL
        exact lv_lshl cx.1 cx.2.1 hd (n_lshl hg.1 hg.2) (k H locs lsA hX hS hL)
      · exact nomatch hex
    · exact nomatch (show (none : Option Nx) = some (.inl q) from hex)
  · exact nomatch (show (none : Option Nx) = some (.inl q) from hex)
  · exact nomatch (show (none : Option Nx) = some (.inl q) from hex)
theorem x_lushr {op len : Nat} {a b : Int} {q : Nat × Lo × List AV × Mem × Sh} (cx : Cx p R s m args meth c Γ E y) (hd : decode (bcY y) pc = .ok (.lushr, len)) (hc : chkI y pc op a b len (.lushr) = true) (hex : exStep clO (sws y pc) y (op, a, b, pc + len) ls st M sh = some (.inl q)) (k : SW p l e R s m args below meth c Γ E y n0 k0 Q q.1 q.2.1 q.2.2.1 q.2.2.2.1 q.2.2.2.2) : SW p l e R s m args below meth c Γ E y n0 k0 Q pc ls st M sh := by
  simp only [chkI, Bool.and_eq_true, beq_iff_eq] at hc
  obtain ⟨rfl, rfl⟩ := hc
  rcases st with _ | ⟨v1 | v1 | v1, st⟩
  · exact nomatch (show (none : Option Nx) = some (.inl q) from hex)
  · rcases st with _ | ⟨v2 | v2 | v2, st⟩
    · exact nomatch (show (none : Option Nx) = some (.inl q) from hex)
    · exact nomatch (show (none : Option Nx) = some (.inl q) from hex)
    · replace hex : (if 0 ≤ v1 ∧ v1 < 64 then some (vL (v2 % 18446744073709551616 / 2 ^ v1.toNat)) else none).bind (fun w => goN _ ls (w :: st) M sh) = some (.inl q) := hex
      split at hex
      · rename_i hg
        obtain rfl := Sum.inl.inj (Option.some.inj hex)
        intro H locs lsA hX hS hL
        exact lv_lushr cx.1 cx.2.1 hd (n_lushr hg.1 hg.2) (k H locs lsA hX hS hL)
      · exact nomatch hex
    · exact nomatch (show (none : Option Nx) = some (.inl q) from hex)
  · exact nomatch (show (none : Option Nx) = some (.inl q) from hex)
  · exact nomatch (show (none : Option Nx) = some (.inl q) from hex)
theorem x_lcmp {op len : Nat} {a b : Int} {q : Nat × Lo × List AV × Mem × Sh} (cx : Cx p R s m args meth c Γ E y) (hd : decode (bcY y) pc = .ok (.lcmp, len)) (hc : chkI y pc op a b len (.lcmp) = true) (hex : exStep clO (sws y pc) y (op, a, b, pc + len) ls st M sh = some (.inl q)) (k : SW p l e R s m args below meth c Γ E y n0 k0 Q q.1 q.2.1 q.2.2.1 q.2.2.2.1 q.2.2.2.2) : SW p l e R s m args below meth c Γ E y n0 k0 Q pc ls st M sh := by
  simp only [chkI, Bool.and_eq_true, beq_iff_eq] at hc
  obtain ⟨rfl, rfl⟩ := hc
  rcases st with _ | ⟨v1 | v1 | v1, st⟩
  · exact nomatch (show (none : Option Nx) = some (.inl q) from hex)
  · exact nomatch (show (none : Option Nx) = some (.inl q) from hex)
  · rcases st with _ | ⟨v2 | v2 | v2, st⟩
    · exact nomatch (show (none : Option Nx) = some (.inl q) from hex)
    · exact nomatch (show (none : Option Nx) = some (.inl q) from hex)
    · replace hex : (if in64 v2 ∧ in64 v1 then some (vI (if v2 < v1 then -1 else if v2 = v1 then 0 else 1)) else none).bind (fun w => goN _ ls (w :: st) M sh) = some (.inl q) := hex
      split at hex
      · rename_i hg
        obtain rfl := Sum.inl.inj (Option.some.inj hex)
        intro H locs lsA hX hS hL
        exact W.lcmp cx.1 cx.2.1 hd (W.stk (congrArg Value.int (n_lcmp hg.1 hg.2).symm) (k H locs lsA hX hS hL))
      · exact nomatch hex
    · exact nomatch (show (none : Option Nx) = some (.inl q) from hex)
  · exact nomatch (show (none : Option Nx) = some (.inl q) from hex)
theorem x_i2l {op len : Nat} {a b : Int} {q : Nat × Lo × List AV × Mem × Sh} (cx : Cx p R s m args meth c Γ E y) (hd : decode (bcY y) pc = .ok (.i2l, len)) (hc : chkI y pc op a b len (.i2l) = true) (hex : exStep clO (sws y pc) y (op, a, b, pc + len) ls st M sh = some (.inl q)) (k : SW p l e R s m args below meth c Γ E y n0 k0 Q q.1 q.2.1 q.2.2.1 q.2.2.2.1 q.2.2.2.2) : SW p l e R s m args below meth c Γ E y n0 k0 Q pc ls st M sh := by
  simp only [chkI, Bool.and_eq_true, beq_iff_eq] at hc
  obtain ⟨rfl, rfl⟩ := hc
  rcases st with _ | ⟨v1 | v1 | v1, st⟩
  · exact nomatch (show (none : Option Nx) = some (.inl q) from hex)
  · obtain rfl := Sum.inl.inj (Option.some.inj hex)
    intro H locs lsA hX hS hL
    exact lv_i2l cx.1 cx.2.1 hd ((congrArg Int32.toInt64 (wr_of v1)).symm.trans (n_i2l (wr_in v1).1 (wr_in v1).2)) (k H locs lsA hX hS hL)
  · exact nomatch (show (none : Option Nx) = some (.inl q) from hex)
  · exact nomatch (show (none : Option Nx) = some (.inl q) from hex)
theorem x_ineg {op len : Nat} {a b : Int} {q : Nat × Lo × List AV × Mem × Sh} (cx : Cx p R s m args meth c Γ E y) (hd : decode (bcY y) pc = .ok (.ineg, len)) (hc : chkI y pc op a b len (.ineg) = true) (hex : exStep clO (sws y pc) y (op, a, b, pc + len) ls st M sh = some (.inl q)) (k : SW p l e R s m args below meth c Γ E y n0 k0 Q q.1 q.2.1 q.2.2.1 q.2.2.2.1 q.2.2.2.2) : SW p l e R s m args below meth c Γ E y n0 k0 Q pc ls st M sh := by
  simp only [chkI, Bool.and_eq_true, beq_iff_eq] at hc
  obtain ⟨rfl, rfl⟩ := hc
  rcases st with _ | ⟨v1 | v1 | v1, st⟩
  · exact nomatch (show (none : Option Nx) = some (.inl q) from hex)
  · obtain rfl := Sum.inl.inj (Option.some.inj hex)
    intro H locs lsA hX hS hL
    exact lv_ineg cx.1 cx.2.1 hd (W.stk (congrArg Value.int (by rw [Int32.ofInt_neg])) (k H locs lsA hX hS hL))
  · exact nomatch (show (none : Option Nx) = some (.inl q) from hex)
  · exact nomatch (show (none : Option Nx) = some (.inl q) from hex)
theorem x_l2i {op len : Nat} {a b : Int} {q : Nat × Lo × List AV × Mem × Sh} (cx : Cx p R s m args meth c Γ E y) (hd : decode (bcY y) pc = .ok (.l2i, len)) (hc : chkI y pc op a b len (.l2i) = true) (hex : exStep clO (sws y pc) y (op, a, b, pc + len) ls st M sh = some (.inl q)) (k : SW p l e R s m args below meth c Γ E y n0 k0 Q q.1 q.2.1 q.2.2.1 q.2.2.2.1 q.2.2.2.2) : SW p l e R s m args below meth c Γ E y n0 k0 Q pc ls st M sh := by
  simp only [chkI, Bool.and_eq_true, beq_iff_eq] at hc
  obtain ⟨rfl, rfl⟩ := hc
  rcases st with _ | ⟨v1 | v1 | v1, st⟩
  · exact nomatch (show (none : Option Nx) = some (.inl q) from hex)
  · exact nomatch (show (none : Option Nx) = some (.inl q) from hex)
  · obtain rfl := Sum.inl.inj (Option.some.inj hex)
    intro H locs lsA hX hS hL
    exact lv_l2i cx.1 cx.2.1 hd (n_l2i v1) (k H locs lsA hX hS hL)
  · exact nomatch (show (none : Option Nx) = some (.inl q) from hex)
theorem x_i2b {op len : Nat} {a b : Int} {q : Nat × Lo × List AV × Mem × Sh} (cx : Cx p R s m args meth c Γ E y) (hd : decode (bcY y) pc = .ok (.i2b, len)) (hc : chkI y pc op a b len (.i2b) = true) (hex : exStep clO (sws y pc) y (op, a, b, pc + len) ls st M sh = some (.inl q)) (k : SW p l e R s m args below meth c Γ E y n0 k0 Q q.1 q.2.1 q.2.2.1 q.2.2.2.1 q.2.2.2.2) : SW p l e R s m args below meth c Γ E y n0 k0 Q pc ls st M sh := by
  simp only [chkI, Bool.and_eq_true, beq_iff_eq] at hc
  obtain ⟨rfl, rfl⟩ := hc
  rcases st with _ | ⟨v1 | v1 | v1, st⟩
  · exact nomatch (show (none : Option Nx) = some (.inl q) from hex)
  · obtain rfl := Sum.inl.inj (Option.some.inj hex)
    intro H locs lsA hX hS hL
    exact lv_i2b cx.1 cx.2.1 hd (n_i2b v1) (k H locs lsA hX hS hL)
  · exact nomatch (show (none : Option Nx) = some (.inl q) from hex)
  · exact nomatch (show (none : Option Nx) = some (.inl q) from hex)
theorem x_i2c {op len : Nat} {a b : Int} {q : Nat × Lo × List AV × Mem × Sh} (cx : Cx p R s m args meth c Γ E y) (hd : decode (bcY y) pc = .ok (.i2c, len)) (hc : chkI y pc op a b len (.i2c) = true) (hex : exStep clO (sws y pc) y (op, a, b, pc + len) ls st M sh = some (.inl q)) (k : SW p l e R s m args below meth c Γ E y n0 k0 Q q.1 q.2.1 q.2.2.1 q.2.2.2.1 q.2.2.2.2) : SW p l e R s m args below meth c Γ E y n0 k0 Q pc ls st M sh := by
  simp only [chkI, Bool.and_eq_true, beq_iff_eq] at hc
  obtain ⟨rfl, rfl⟩ := hc
  rcases st with _ | ⟨v1 | v1 | v1, st⟩
  · exact nomatch (show (none : Option Nx) = some (.inl q) from hex)
  · obtain rfl := Sum.inl.inj (Option.some.inj hex)
    intro H locs lsA hX hS hL
    exact lv_i2c cx.1 cx.2.1 hd (n_i2c v1) (k H locs lsA hX hS hL)
  · exact nomatch (show (none : Option Nx) = some (.inl q) from hex)
  · exact nomatch (show (none : Option Nx) = some (.inl q) from hex)
theorem cb_0 (x z : Int) : cmpB 0 x z = true ↔ x = z := by simp [cmpB]
theorem cb_1 (x z : Int) : cmpB 1 x z = true ↔ ¬ x = z := by simp [cmpB]
theorem cb_2 (x z : Int) : cmpB 2 x z = true ↔ x < z := by simp [cmpB]
theorem cb_3 (x z : Int) : cmpB 3 x z = true ↔ z ≤ x := by simp [cmpB]
theorem cb_4 (x z : Int) : cmpB 4 x z = true ↔ z < x := by simp [cmpB]
theorem cb_5 (x z : Int) : cmpB 5 x z = true ↔ x ≤ z := by simp [cmpB]
theorem if_to {α : Type} {f : Nat → Prop} {b : Bool} {t u : Nat} (h : f (if b = true then t else u)) (hb : b = true) : f t := by rw [if_pos hb] at h; exact h
theorem if_fr {α : Type} {f : Nat → Prop} {b : Bool} {t u : Nat} (h : f (if b = true then t else u)) (hb : ¬ b = true) : f u := by rw [if_neg hb] at h; exact h
theorem ofs_to {pc : Nat} {off b : Int} (h1 : b = (pc : Int) + off) (h2 : 0 ≤ b) : (pc : Int) + off = (b.toNat : Int) := by omega
theorem x_if_eq {n : Int} {op len : Nat} {a b : Int} {q : Nat × Lo × List AV × Mem × Sh} (cx : Cx p R s m args meth c Γ E y) (hd : decode (bcY y) pc = .ok (.ifCond .eq n, len)) (hc : chkI y pc op a b len (.ifCond .eq n) = true) (hex : exStep clO (sws y pc) y (op, a, b, pc + len) ls st M sh = some (.inl q)) (k : SW p l e R s m args below meth c Γ E y n0 k0 Q q.1 q.2.1 q.2.2.1 q.2.2.2.1 q.2.2.2.2) : SW p l e R s m args below meth c Γ E y n0 k0 Q pc ls st M sh := by
  simp only [chkI, cmpN, Bool.and_eq_true, beq_iff_eq, decide_eq_true_eq] at hc
  obtain ⟨⟨⟨⟨rfl, rfl⟩, hb⟩, h0⟩, rfl⟩ := hc
  rcases st with _ | ⟨v1 | v1 | v1, st⟩
  · exact nomatch (show (none : Option Nx) = some (.inl q) from hex)
  · replace hex : (if inR v1 then goN (if cmpB 0 v1 0 = true then b.toNat else pc + 3) ls st M sh else none) = some (.inl q) := hex
    split at hex
    · rename_i hr
      obtain rfl := Sum.inl.inj (Option.some.inj hex)
      intro H locs lsA hX hS hL
      have hq := (cb_0 v1 0).trans (n_eq0 hr).symm
      exact lv_if_eq cx.1 cx.2.1 hd (ofs_to hb h0) (fun h => if_to (α := Unit) (f := fun pc' => SW p l e R s m args below meth c Γ E y n0 k0 Q pc' ls st M sh) k (hq.mpr h) H locs lsA hX hS hL) (fun h => if_fr (α := Unit) (f := fun pc' => SW p l e R s m args below meth c Γ E y n0 k0 Q pc' ls st M sh) k (fun h' => h (hq.mp h')) H locs lsA hX hS hL)
    · exact nomatch hex
  · exact nomatch (show (none : Option Nx) = some (.inl q) from hex)
  · exact nomatch (show (none : Option Nx) = some (.inl q) from hex)
theorem x_icmp_eq {n : Int} {op len : Nat} {a b : Int} {q : Nat × Lo × List AV × Mem × Sh} (cx : Cx p R s m args meth c Γ E y) (hd : decode (bcY y) pc = .ok (.if_icmp .eq n, len)) (hc : chkI y pc op a b len (.if_icmp .eq n) = true) (hex : exStep clO (sws y pc) y (op, a, b, pc + len) ls st M sh = some (.inl q)) (k : SW p l e R s m args below meth c Γ E y n0 k0 Q q.1 q.2.1 q.2.2.1 q.2.2.2.1 q.2.2.2.2) : SW p l e R s m args below meth c Γ E y n0 k0 Q pc ls st M sh := by
  simp only [chkI, cmpN, Bool.and_eq_true, beq_iff_eq, decide_eq_true_eq] at hc
  obtain ⟨⟨⟨⟨rfl, rfl⟩, hb⟩, h0⟩, rfl⟩ := hc
  rcases st with _ | ⟨v1 | v1 | v1, st⟩
  · exact nomatch (show (none : Option Nx) = some (.inl q) from hex)
  · rcases st with _ | ⟨v2 | v2 | v2, st⟩
    · exact nomatch (show (none : Option Nx) = some (.inl q) from hex)
    · replace hex : (if inR v2 ∧ inR v1 then goN (if cmpB 0 v2 v1 = true then b.toNat else pc + 3) ls st M sh else goN (if cmpB 0 (wr32 v2) (wr32 v1) = true then b.toNat else pc + 3) ls st M sh) = some (.inl q) := hex
      split at hex
      · rename_i hr
        obtain rfl := Sum.inl.inj (Option.some.inj hex)
        intro H locs lsA hX hS hL
        have hq := (cb_0 v2 v1).trans (n_eq hr.1 hr.2).symm
        exact lv_icmp_eq cx.1 cx.2.1 hd (ofs_to hb h0) (fun h => if_to (α := Unit) (f := fun pc' => SW p l e R s m args below meth c Γ E y n0 k0 Q pc' ls st M sh) k (hq.mpr h) H locs lsA hX hS hL) (fun h => if_fr (α := Unit) (f := fun pc' => SW p l e R s m args below meth c Γ E y n0 k0 Q pc' ls st M sh) k (fun h' => h (hq.mp h')) H locs lsA hX hS hL)
      · obtain rfl := Sum.inl.inj (Option.some.inj hex)
        intro H locs lsA hX hS hL
        have hr := And.intro (wr_in v2) (wr_in v1)
        have hq := (cb_0 (wr32 v2) (wr32 v1)).trans (n_eq hr.1 hr.2).symm
        rw [wr_of, wr_of] at hq
        exact lv_icmp_eq cx.1 cx.2.1 hd (ofs_to hb h0) (fun h => if_to (α := Unit) (f := fun pc' => SW p l e R s m args below meth c Γ E y n0 k0 Q pc' ls st M sh) k (hq.mpr h) H locs lsA hX hS hL) (fun h => if_fr (α := Unit) (f := fun pc' => SW p l e R s m args below meth c Γ E y n0 k0 Q pc' ls st M sh) k (fun h' => h (hq.mp h')) H locs lsA hX hS hL)
    · exact nomatch (show (none : Option Nx) = some (.inl q) from hex)
    · exact nomatch (show (none : Option Nx) = some (.inl q) from hex)
  · exact nomatch (show (none : Option Nx) = some (.inl q) from hex)
  · exact nomatch (show (none : Option Nx) = some (.inl q) from hex)
theorem x_if_ne {n : Int} {op len : Nat} {a b : Int} {q : Nat × Lo × List AV × Mem × Sh} (cx : Cx p R s m args meth c Γ E y) (hd : decode (bcY y) pc = .ok (.ifCond .ne n, len)) (hc : chkI y pc op a b len (.ifCond .ne n) = true) (hex : exStep clO (sws y pc) y (op, a, b, pc + len) ls st M sh = some (.inl q)) (k : SW p l e R s m args below meth c Γ E y n0 k0 Q q.1 q.2.1 q.2.2.1 q.2.2.2.1 q.2.2.2.2) : SW p l e R s m args below meth c Γ E y n0 k0 Q pc ls st M sh := by
  simp only [chkI, cmpN, Bool.and_eq_true, beq_iff_eq, decide_eq_true_eq] at hc
  obtain ⟨⟨⟨⟨rfl, rfl⟩, hb⟩, h0⟩, rfl⟩ := hc
  rcases st with _ | ⟨v1 | v1 | v1, st⟩
  · exact nomatch (show (none : Option Nx) = some (.inl q) from hex)
  · replace hex : (if inR v1 then goN (if cmpB 1 v1 0 = true then b.toNat else pc + 3) ls st M sh else none) = some (.inl q) := hex
    split at hex
    · rename_i hr
      obtain rfl := Sum.inl.inj (Option.some.inj hex)
      intro H locs lsA hX hS hL
      have hq := (cb_1 v1 0).trans (not_congr (n_eq0 hr)).symm
      exact lv_if_ne cx.1 cx.2.1 hd (ofs_to hb h0) (fun h => if_to (α := Unit) (f := fun pc' => SW p l e R s m args below meth c Γ E y n0 k0 Q pc' ls st M sh) k (hq.mpr h) H locs lsA hX hS hL) (fun h => if_fr (α := Unit) (f := fun pc' => SW p l e R s m args below meth c Γ E y n0 k0 Q pc' ls st M sh) k (fun h' => (hq.mp h') h) H locs lsA hX hS hL)
    · exact nomatch hex
  · exact nomatch (show (none : Option Nx) = some (.inl q) from hex)
  · exact nomatch (show (none : Option Nx) = some (.inl q) from hex)
theorem x_icmp_ne {n : Int} {op len : Nat} {a b : Int} {q : Nat × Lo × List AV × Mem × Sh} (cx : Cx p R s m args meth c Γ E y) (hd : decode (bcY y) pc = .ok (.if_icmp .ne n, len)) (hc : chkI y pc op a b len (.if_icmp .ne n) = true) (hex : exStep clO (sws y pc) y (op, a, b, pc + len) ls st M sh = some (.inl q)) (k : SW p l e R s m args below meth c Γ E y n0 k0 Q q.1 q.2.1 q.2.2.1 q.2.2.2.1 q.2.2.2.2) : SW p l e R s m args below meth c Γ E y n0 k0 Q pc ls st M sh := by
  simp only [chkI, cmpN, Bool.and_eq_true, beq_iff_eq, decide_eq_true_eq] at hc
  obtain ⟨⟨⟨⟨rfl, rfl⟩, hb⟩, h0⟩, rfl⟩ := hc
  rcases st with _ | ⟨v1 | v1 | v1, st⟩
  · exact nomatch (show (none : Option Nx) = some (.inl q) from hex)
  · rcases st with _ | ⟨v2 | v2 | v2, st⟩
    · exact nomatch (show (none : Option Nx) = some (.inl q) from hex)
    · replace hex : (if inR v2 ∧ inR v1 then goN (if cmpB 1 v2 v1 = true then b.toNat else pc + 3) ls st M sh else goN (if cmpB 1 (wr32 v2) (wr32 v1) = true then b.toNat else pc + 3) ls st M sh) = some (.inl q) := hex
      split at hex
      · rename_i hr
        obtain rfl := Sum.inl.inj (Option.some.inj hex)
        intro H locs lsA hX hS hL
        have hq := (cb_1 v2 v1).trans (not_congr (n_eq hr.1 hr.2)).symm
        exact lv_icmp_ne cx.1 cx.2.1 hd (ofs_to hb h0) (fun h => if_to (α := Unit) (f := fun pc' => SW p l e R s m args below meth c Γ E y n0 k0 Q pc' ls st M sh) k (hq.mpr h) H locs lsA hX hS hL) (fun h => if_fr (α := Unit) (f := fun pc' => SW p l e R s m args below meth c Γ E y n0 k0 Q pc' ls st M sh) k (fun h' => (hq.mp h') h) H locs lsA hX hS hL)
      · obtain rfl := Sum.inl.inj (Option.some.inj hex)
        intro H locs lsA hX hS hL
        have hr := And.intro (wr_in v2) (wr_in v1)
        have hq := (cb_1 (wr32 v2) (wr32 v1)).trans (not_congr (n_eq hr.1 hr.2)).symm
        rw [wr_of, wr_of] at hq
        exact lv_icmp_ne cx.1 cx.2.1 hd (ofs_to hb h0) (fun h => if_to (α := Unit) (f := fun pc' => SW p l e R s m args below meth c Γ E y n0 k0 Q pc' ls st M sh) k (hq.mpr h) H locs lsA hX hS hL) (fun h => if_fr (α := Unit) (f := fun pc' => SW p l e R s m args below meth c Γ E y n0 k0 Q pc' ls st M sh) k (fun h' => (hq.mp h') h) H locs lsA hX hS hL)
    · exact nomatch (show (none : Option Nx) = some (.inl q) from hex)
    · exact nomatch (show (none : Option Nx) = some (.inl q) from hex)
  · exact nomatch (show (none : Option Nx) = some (.inl q) from hex)
  · exact nomatch (show (none : Option Nx) = some (.inl q) from hex)
theorem x_if_lt {n : Int} {op len : Nat} {a b : Int} {q : Nat × Lo × List AV × Mem × Sh} (cx : Cx p R s m args meth c Γ E y) (hd : decode (bcY y) pc = .ok (.ifCond .lt n, len)) (hc : chkI y pc op a b len (.ifCond .lt n) = true) (hex : exStep clO (sws y pc) y (op, a, b, pc + len) ls st M sh = some (.inl q)) (k : SW p l e R s m args below meth c Γ E y n0 k0 Q q.1 q.2.1 q.2.2.1 q.2.2.2.1 q.2.2.2.2) : SW p l e R s m args below meth c Γ E y n0 k0 Q pc ls st M sh := by
  simp only [chkI, cmpN, Bool.and_eq_true, beq_iff_eq, decide_eq_true_eq] at hc
  obtain ⟨⟨⟨⟨rfl, rfl⟩, hb⟩, h0⟩, rfl⟩ := hc
  rcases st with _ | ⟨v1 | v1 | v1, st⟩
  · exact nomatch (show (none : Option Nx) = some (.inl q) from hex)
  · replace hex : (if inR v1 then goN (if cmpB 2 v1 0 = true then b.toNat else pc + 3) ls st M sh else none) = some (.inl q) := hex
    split at hex
    · rename_i hr
      obtain rfl := Sum.inl.inj (Option.some.inj hex)
      intro H locs lsA hX hS hL
      have hq := (cb_2 v1 0).trans (n_lt0 hr).symm
      exact lv_if_lt cx.1 cx.2.1 hd (ofs_to hb h0) (fun h => if_to (α := Unit) (f := fun pc' => SW p l e R s m args below meth c Γ E y n0 k0 Q pc' ls st M sh) k (hq.mpr h) H locs lsA hX hS hL) (fun h => if_fr (α := Unit) (f := fun pc' => SW p l e R s m args below meth c Γ E y n0 k0 Q pc' ls st M sh) k (fun h' => h (hq.mp h')) H locs lsA hX hS hL)
    · exact nomatch hex
  · exact nomatch (show (none : Option Nx) = some (.inl q) from hex)
  · exact nomatch (show (none : Option Nx) = some (.inl q) from hex)
theorem x_icmp_lt {n : Int} {op len : Nat} {a b : Int} {q : Nat × Lo × List AV × Mem × Sh} (cx : Cx p R s m args meth c Γ E y) (hd : decode (bcY y) pc = .ok (.if_icmp .lt n, len)) (hc : chkI y pc op a b len (.if_icmp .lt n) = true) (hex : exStep clO (sws y pc) y (op, a, b, pc + len) ls st M sh = some (.inl q)) (k : SW p l e R s m args below meth c Γ E y n0 k0 Q q.1 q.2.1 q.2.2.1 q.2.2.2.1 q.2.2.2.2) : SW p l e R s m args below meth c Γ E y n0 k0 Q pc ls st M sh := by
  simp only [chkI, cmpN, Bool.and_eq_true, beq_iff_eq, decide_eq_true_eq] at hc
  obtain ⟨⟨⟨⟨rfl, rfl⟩, hb⟩, h0⟩, rfl⟩ := hc
  rcases st with _ | ⟨v1 | v1 | v1, st⟩
  · exact nomatch (show (none : Option Nx) = some (.inl q) from hex)
  · rcases st with _ | ⟨v2 | v2 | v2, st⟩
    · exact nomatch (show (none : Option Nx) = some (.inl q) from hex)
    · replace hex : (if inR v2 ∧ inR v1 then goN (if cmpB 2 v2 v1 = true then b.toNat else pc + 3) ls st M sh else goN (if cmpB 2 (wr32 v2) (wr32 v1) = true then b.toNat else pc + 3) ls st M sh) = some (.inl q) := hex
      split at hex
      · rename_i hr
        obtain rfl := Sum.inl.inj (Option.some.inj hex)
        intro H locs lsA hX hS hL
        have hq := (cb_2 v2 v1).trans (n_lt hr.1 hr.2).symm
        exact lv_icmp_lt cx.1 cx.2.1 hd (ofs_to hb h0) (fun h => if_to (α := Unit) (f := fun pc' => SW p l e R s m args below meth c Γ E y n0 k0 Q pc' ls st M sh) k (hq.mpr h) H locs lsA hX hS hL) (fun h => if_fr (α := Unit) (f := fun pc' => SW p l e R s m args below meth c Γ E y n0 k0 Q pc' ls st M sh) k (fun h' => h (hq.mp h')) H locs lsA hX hS hL)
      · obtain rfl := Sum.inl.inj (Option.some.inj hex)
        intro H locs lsA hX hS hL
        have hr := And.intro (wr_in v2) (wr_in v1)
        have hq := (cb_2 (wr32 v2) (wr32 v1)).trans (n_lt hr.1 hr.2).symm
        rw [wr_of, wr_of] at hq
        exact lv_icmp_lt cx.1 cx.2.1 hd (ofs_to hb h0) (fun h => if_to (α := Unit) (f := fun pc' => SW p l e R s m args below meth c Γ E y n0 k0 Q pc' ls st M sh) k (hq.mpr h) H locs lsA hX hS hL) (fun h => if_fr (α := Unit) (f := fun pc' => SW p l e R s m args below meth c Γ E y n0 k0 Q pc' ls st M sh) k (fun h' => h (hq.mp h')) H locs lsA hX hS hL)
    · exact nomatch (show (none : Option Nx) = some (.inl q) from hex)
    · exact nomatch (show (none : Option Nx) = some (.inl q) from hex)
  · exact nomatch (show (none : Option Nx) = some (.inl q) from hex)
  · exact nomatch (show (none : Option Nx) = some (.inl q) from hex)
theorem x_if_ge {n : Int} {op len : Nat} {a b : Int} {q : Nat × Lo × List AV × Mem × Sh} (cx : Cx p R s m args meth c Γ E y) (hd : decode (bcY y) pc = .ok (.ifCond .ge n, len)) (hc : chkI y pc op a b len (.ifCond .ge n) = true) (hex : exStep clO (sws y pc) y (op, a, b, pc + len) ls st M sh = some (.inl q)) (k : SW p l e R s m args below meth c Γ E y n0 k0 Q q.1 q.2.1 q.2.2.1 q.2.2.2.1 q.2.2.2.2) : SW p l e R s m args below meth c Γ E y n0 k0 Q pc ls st M sh := by
  simp only [chkI, cmpN, Bool.and_eq_true, beq_iff_eq, decide_eq_true_eq] at hc
  obtain ⟨⟨⟨⟨rfl, rfl⟩, hb⟩, h0⟩, rfl⟩ := hc
  rcases st with _ | ⟨v1 | v1 | v1, st⟩
  · exact nomatch (show (none : Option Nx) = some (.inl q) from hex)
  · replace hex : (if inR v1 then goN (if cmpB 3 v1 0 = true then b.toNat else pc + 3) ls st M sh else none) = some (.inl q) := hex
    split at hex
    · rename_i hr
      obtain rfl := Sum.inl.inj (Option.some.inj hex)
      intro H locs lsA hX hS hL
      have hq := (cb_3 v1 0).trans (n_ge0 hr).symm
      exact lv_if_ge cx.1 cx.2.1 hd (ofs_to hb h0) (fun h => if_to (α := Unit) (f := fun pc' => SW p l e R s m args below meth c Γ E y n0 k0 Q pc' ls st M sh) k (hq.mpr h) H locs lsA hX hS hL) (fun h => if_fr (α := Unit) (f := fun pc' => SW p l e R s m args below meth c Γ E y n0 k0 Q pc' ls st M sh) k (fun h' => h (hq.mp h')) H locs lsA hX hS hL)
    · exact nomatch hex
  · exact nomatch (show (none : Option Nx) = some (.inl q) from hex)
  · exact nomatch (show (none : Option Nx) = some (.inl q) from hex)
theorem x_icmp_ge {n : Int} {op len : Nat} {a b : Int} {q : Nat × Lo × List AV × Mem × Sh} (cx : Cx p R s m args meth c Γ E y) (hd : decode (bcY y) pc = .ok (.if_icmp .ge n, len)) (hc : chkI y pc op a b len (.if_icmp .ge n) = true) (hex : exStep clO (sws y pc) y (op, a, b, pc + len) ls st M sh = some (.inl q)) (k : SW p l e R s m args below meth c Γ E y n0 k0 Q q.1 q.2.1 q.2.2.1 q.2.2.2.1 q.2.2.2.2) : SW p l e R s m args below meth c Γ E y n0 k0 Q pc ls st M sh := by
  simp only [chkI, cmpN, Bool.and_eq_true, beq_iff_eq, decide_eq_true_eq] at hc
  obtain ⟨⟨⟨⟨rfl, rfl⟩, hb⟩, h0⟩, rfl⟩ := hc
  rcases st with _ | ⟨v1 | v1 | v1, st⟩
  · exact nomatch (show (none : Option Nx) = some (.inl q) from hex)
  · rcases st with _ | ⟨v2 | v2 | v2, st⟩
    · exact nomatch (show (none : Option Nx) = some (.inl q) from hex)
    · replace hex : (if inR v2 ∧ inR v1 then goN (if cmpB 3 v2 v1 = true then b.toNat else pc + 3) ls st M sh else goN (if cmpB 3 (wr32 v2) (wr32 v1) = true then b.toNat else pc + 3) ls st M sh) = some (.inl q) := hex
      split at hex
      · rename_i hr
        obtain rfl := Sum.inl.inj (Option.some.inj hex)
        intro H locs lsA hX hS hL
        have hq := (cb_3 v2 v1).trans (n_le hr.2 hr.1).symm
        exact lv_icmp_ge cx.1 cx.2.1 hd (ofs_to hb h0) (fun h => if_to (α := Unit) (f := fun pc' => SW p l e R s m args below meth c Γ E y n0 k0 Q pc' ls st M sh) k (hq.mpr h) H locs lsA hX hS hL) (fun h => if_fr (α := Unit) (f := fun pc' => SW p l e R s m args below meth c Γ E y n0 k0 Q pc' ls st M sh) k (fun h' => h (hq.mp h')) H locs lsA hX hS hL)
      · obtain rfl := Sum.inl.inj (Option.some.inj hex)
        intro H locs lsA hX hS hL
        have hr := And.intro (wr_in v2) (wr_in v1)
        have hq := (cb_3 (wr32 v2) (wr32 v1)).trans (n_le hr.2 hr.1).symm
        rw [wr_of, wr_of] at hq
        exact lv_icmp_ge cx.1 cx.2.1 hd (ofs_to hb h0) (fun h => if_to (α := Unit) (f := fun pc' => SW p l e R s m args below meth c Γ E y n0 k0 Q pc' ls st M sh) k (hq.mpr h) H locs lsA hX hS hL) (fun h => if_fr (α := Unit) (f := fun pc' => SW p l e R s m args below meth c Γ E y n0 k0 Q pc' ls st M sh) k (fun h' => h (hq.mp h')) H locs lsA hX hS hL)
    · exact nomatch (show (none : Option Nx) = some (.inl q) from hex)
    · exact nomatch (show (none : Option Nx) = some (.inl q) from hex)
  · exact nomatch (show (none : Option Nx) = some (.inl q) from hex)
  · exact nomatch (show (none : Option Nx) = some (.inl q) from hex)
theorem x_if_gt {n : Int} {op len : Nat} {a b : Int} {q : Nat × Lo × List AV × Mem × Sh} (cx : Cx p R s m args meth c Γ E y) (hd : decode (bcY y) pc = .ok (.ifCond .gt n, len)) (hc : chkI y pc op a b len (.ifCond .gt n) = true) (hex : exStep clO (sws y pc) y (op, a, b, pc + len) ls st M sh = some (.inl q)) (k : SW p l e R s m args below meth c Γ E y n0 k0 Q q.1 q.2.1 q.2.2.1 q.2.2.2.1 q.2.2.2.2) : SW p l e R s m args below meth c Γ E y n0 k0 Q pc ls st M sh := by
  simp only [chkI, cmpN, Bool.and_eq_true, beq_iff_eq, decide_eq_true_eq] at hc
  obtain ⟨⟨⟨⟨rfl, rfl⟩, hb⟩, h0⟩, rfl⟩ := hc
  rcases st with _ | ⟨v1 | v1 | v1, st⟩
  · exact nomatch (show (none : Option Nx) = some (.inl q) from hex)
  · replace hex : (if inR v1 then goN (if cmpB 4 v1 0 = true then b.toNat else pc + 3) ls st M sh else none) = some (.inl q) := hex
    split at hex
    · rename_i hr
      obtain rfl := Sum.inl.inj (Option.some.inj hex)
      intro H locs lsA hX hS hL
      have hq := (cb_4 v1 0).trans (n_gt0 hr).symm
      exact lv_if_gt cx.1 cx.2.1 hd (ofs_to hb h0) (fun h => if_to (α := Unit) (f := fun pc' => SW p l e R s m args below meth c Γ E y n0 k0 Q pc' ls st M sh) k (hq.mpr h) H locs lsA hX hS hL) (fun h => if_fr (α := Unit) (f := fun pc' => SW p l e R s m args below meth c Γ E y n0 k0 Q pc' ls st M sh) k (fun h' => h (hq.mp h')) H locs lsA hX hS hL)
    · exact nomatch hex
  · exact nomatch (show (none : Option Nx) = some (.inl q) from hex)
  · exact nomatch (show (none : Option Nx) = some (.inl q) from hex)
theorem x_icmp_gt {n : Int} {op len : Nat} {a b : Int} {q : Nat × Lo × List AV × Mem × Sh} (cx : Cx p R s m args meth c Γ E y) (hd : decode (bcY y) pc = .ok (.if_icmp .gt n, len)) (hc : chkI y pc op a b len (.if_icmp .gt n) = true) (hex : exStep clO (sws y pc) y (op, a, b, pc + len) ls st M sh = some (.inl q)) (k : SW p l e R s m args below meth c Γ E y n0 k0 Q q.1 q.2.1 q.2.2.1 q.2.2.2.1 q.2.2.2.2) : SW p l e R s m args below meth c Γ E y n0 k0 Q pc ls st M sh := by
  simp only [chkI, cmpN, Bool.and_eq_true, beq_iff_eq, decide_eq_true_eq] at hc
  obtain ⟨⟨⟨⟨rfl, rfl⟩, hb⟩, h0⟩, rfl⟩ := hc
  rcases st with _ | ⟨v1 | v1 | v1, st⟩
  · exact nomatch (show (none : Option Nx) = some (.inl q) from hex)
  · rcases st with _ | ⟨v2 | v2 | v2, st⟩
    · exact nomatch (show (none : Option Nx) = some (.inl q) from hex)
    · replace hex : (if inR v2 ∧ inR v1 then goN (if cmpB 4 v2 v1 = true then b.toNat else pc + 3) ls st M sh else goN (if cmpB 4 (wr32 v2) (wr32 v1) = true then b.toNat else pc + 3) ls st M sh) = some (.inl q) := hex
      split at hex
      · rename_i hr
        obtain rfl := Sum.inl.inj (Option.some.inj hex)
        intro H locs lsA hX hS hL
        have hq := (cb_4 v2 v1).trans (n_lt hr.2 hr.1).symm
        exact lv_icmp_gt cx.1 cx.2.1 hd (ofs_to hb h0) (fun h => if_to (α := Unit) (f := fun pc' => SW p l e R s m args below meth c Γ E y n0 k0 Q pc' ls st M sh) k (hq.mpr h) H locs lsA hX hS hL) (fun h => if_fr (α := Unit) (f := fun pc' => SW p l e R s m args below meth c Γ E y n0 k0 Q pc' ls st M sh) k (fun h' => h (hq.mp h')) H locs lsA hX hS hL)
      · obtain rfl := Sum.inl.inj (Option.some.inj hex)
        intro H locs lsA hX hS hL
        have hr := And.intro (wr_in v2) (wr_in v1)
        have hq := (cb_4 (wr32 v2) (wr32 v1)).trans (n_lt hr.2 hr.1).symm
        rw [wr_of, wr_of] at hq
        exact lv_icmp_gt cx.1 cx.2.1 hd (ofs_to hb h0) (fun h => if_to (α := Unit) (f := fun pc' => SW p l e R s m args below meth c Γ E y n0 k0 Q pc' ls st M sh) k (hq.mpr h) H locs lsA hX hS hL) (fun h => if_fr (α := Unit) (f := fun pc' => SW p l e R s m args below meth c Γ E y n0 k0 Q pc' ls st M sh) k (fun h' => h (hq.mp h')) H locs lsA hX hS hL)
    · exact nomatch (show (none : Option Nx) = some (.inl q) from hex)
    · exact nomatch (show (none : Option Nx) = some (.inl q) from hex)
  · exact nomatch (show (none : Option Nx) = some (.inl q) from hex)
  · exact nomatch (show (none : Option Nx) = some (.inl q) from hex)
theorem x_if_le {n : Int} {op len : Nat} {a b : Int} {q : Nat × Lo × List AV × Mem × Sh} (cx : Cx p R s m args meth c Γ E y) (hd : decode (bcY y) pc = .ok (.ifCond .le n, len)) (hc : chkI y pc op a b len (.ifCond .le n) = true) (hex : exStep clO (sws y pc) y (op, a, b, pc + len) ls st M sh = some (.inl q)) (k : SW p l e R s m args below meth c Γ E y n0 k0 Q q.1 q.2.1 q.2.2.1 q.2.2.2.1 q.2.2.2.2) : SW p l e R s m args below meth c Γ E y n0 k0 Q pc ls st M sh := by
  simp only [chkI, cmpN, Bool.and_eq_true, beq_iff_eq, decide_eq_true_eq] at hc
  obtain ⟨⟨⟨⟨rfl, rfl⟩, hb⟩, h0⟩, rfl⟩ := hc
  rcases st with _ | ⟨v1 | v1 | v1, st⟩
  · exact nomatch (show (none : Option Nx) = some (.inl q) from hex)
  · replace hex : (if inR v1 then goN (if cmpB 5 v1 0 = true then b.toNat else pc + 3) ls st M sh else none) = some (.inl q) := hex
    split at hex
    · rename_i hr
      obtain rfl := Sum.inl.inj (Option.some.inj hex)
      intro H locs lsA hX hS hL
      have hq := (cb_5 v1 0).trans (n_le0 hr).symm
      exact lv_if_le cx.1 cx.2.1 hd (ofs_to hb h0) (fun h => if_to (α := Unit) (f := fun pc' => SW p l e R s m args below meth c Γ E y n0 k0 Q pc' ls st M sh) k (hq.mpr h) H locs lsA hX hS hL) (fun h => if_fr (α := Unit) (f := fun pc' => SW p l e R s m args below meth c Γ E y n0 k0 Q pc' ls st M sh) k (fun h' => h (hq.mp h')) H locs lsA hX hS hL)
    · exact nomatch hex
  · exact nomatch (show (none : Option Nx) = some (.inl q) from hex)
  · exact nomatch (show (none : Option Nx) = some (.inl q) from hex)
theorem x_icmp_le {n : Int} {op len : Nat} {a b : Int} {q : Nat × Lo × List AV × Mem × Sh} (cx : Cx p R s m args meth c Γ E y) (hd : decode (bcY y) pc = .ok (.if_icmp .le n, len)) (hc : chkI y pc op a b len (.if_icmp .le n) = true) (hex : exStep clO (sws y pc) y (op, a, b, pc + len) ls st M sh = some (.inl q)) (k : SW p l e R s m args below meth c Γ E y n0 k0 Q q.1 q.2.1 q.2.2.1 q.2.2.2.1 q.2.2.2.2) : SW p l e R s m args below meth c Γ E y n0 k0 Q pc ls st M sh := by
  simp only [chkI, cmpN, Bool.and_eq_true, beq_iff_eq, decide_eq_true_eq] at hc
  obtain ⟨⟨⟨⟨rfl, rfl⟩, hb⟩, h0⟩, rfl⟩ := hc
  rcases st with _ | ⟨v1 | v1 | v1, st⟩
  · exact nomatch (show (none : Option Nx) = some (.inl q) from hex)
  · rcases st with _ | ⟨v2 | v2 | v2, st⟩
    · exact nomatch (show (none : Option Nx) = some (.inl q) from hex)
    · replace hex : (if inR v2 ∧ inR v1 then goN (if cmpB 5 v2 v1 = true then b.toNat else pc + 3) ls st M sh else goN (if cmpB 5 (wr32 v2) (wr32 v1) = true then b.toNat else pc + 3) ls st M sh) = some (.inl q) := hex
      split at hex
      · rename_i hr
        obtain rfl := Sum.inl.inj (Option.some.inj hex)
        intro H locs lsA hX hS hL
        have hq := (cb_5 v2 v1).trans (n_le hr.1 hr.2).symm
        exact lv_icmp_le cx.1 cx.2.1 hd (ofs_to hb h0) (fun h => if_to (α := Unit) (f := fun pc' => SW p l e R s m args below meth c Γ E y n0 k0 Q pc' ls st M sh) k (hq.mpr h) H locs lsA hX hS hL) (fun h => if_fr (α := Unit) (f := fun pc' => SW p l e R s m args below meth c Γ E y n0 k0 Q pc' ls st M sh) k (fun h' => h (hq.mp h')) H locs lsA hX hS hL)
      · obtain rfl := Sum.inl.inj (Option.some.inj hex)
        intro H locs lsA hX hS hL
        have hr := And.intro (wr_in v2) (wr_in v1)
        have hq := (cb_5 (wr32 v2) (wr32 v1)).trans (n_le hr.1 hr.2).symm
        rw [wr_of, wr_of] at hq
        exact lv_icmp_le cx.1 cx.2.1 hd (ofs_to hb h0) (fun h => if_to (α := Unit) (f := fun pc' => SW p l e R s m args below meth c Γ E y n0 k0 Q pc' ls st M sh) k (hq.mpr h) H locs lsA hX hS hL) (fun h => if_fr (α := Unit) (f := fun pc' => SW p l e R s m args below meth c Γ E y n0 k0 Q pc' ls st M sh) k (fun h' => h (hq.mp h')) H locs lsA hX hS hL)
    · exact nomatch (show (none : Option Nx) = some (.inl q) from hex)
    · exact nomatch (show (none : Option Nx) = some (.inl q) from hex)
  · exact nomatch (show (none : Option Nx) = some (.inl q) from hex)
  · exact nomatch (show (none : Option Nx) = some (.inl q) from hex)
theorem x_ifnull {n : Int} {op len : Nat} {a b : Int} {q : Nat × Lo × List AV × Mem × Sh} (cx : Cx p R s m args meth c Γ E y) (hd : decode (bcY y) pc = .ok (.ifnull n, len)) (hc : chkI y pc op a b len (.ifnull n) = true) (hex : exStep clO (sws y pc) y (op, a, b, pc + len) ls st M sh = some (.inl q)) (k : SW p l e R s m args below meth c Γ E y n0 k0 Q q.1 q.2.1 q.2.2.1 q.2.2.2.1 q.2.2.2.2) : SW p l e R s m args below meth c Γ E y n0 k0 Q pc ls st M sh := by
  simp only [chkI, Bool.and_eq_true, beq_iff_eq, decide_eq_true_eq] at hc
  obtain ⟨⟨⟨rfl, hb⟩, h0⟩, rfl⟩ := hc
  rcases st with _ | ⟨v1 | v1 | v1, st⟩
  · exact nomatch (show (none : Option Nx) = some (.inl q) from hex)
  · exact nomatch (show (none : Option Nx) = some (.inl q) from hex)
  · exact nomatch (show (none : Option Nx) = some (.inl q) from hex)
  · replace hex : (if v1 ≠ -1000 then goN (if v1 = 0 then b.toNat else pc + 3) ls st M sh else none) = some (.inl q) := hex
    split at hex
    · rename_i hr
      obtain rfl := Sum.inl.inj (Option.some.inj hex)
      intro H locs lsA hX hS hL
      by_cases hz : v1 = 0
      · have k : SW p l e R s m args below meth c Γ E y n0 k0 Q (b.toNat) ls st M sh := by have := k; rw [if_pos hz] at this; exact this
        refine W.stk (w := .null) ?_ ?_
        · show _ = va_rf (gS Γ v1)
          rw [hz, gS_0 cx.2.2.2.2.2.2.1]
          rfl
        · exact lv_ifnullN cx.1 cx.2.1 hd (ofs_to hb h0) (k H locs lsA hX hS hL)
      · have k : SW p l e R s m args below meth c Γ E y n0 k0 Q (pc + 3) ls st M sh := by have := k; rw [if_neg hz] at this; exact this
        obtain ⟨a1, ha1⟩ := cx.2.2.2.2.2.2.1.2.2.2.2.2.2 v1 hz hr
        refine W.stk (w := .ref a1) ?_ ?_
        · show _ = va_rf (gS Γ v1)
          rw [ha1]
          rfl
        · exact lv_ifnull cx.1 cx.2.1 hd (k H locs lsA hX hS hL)
    · exact nomatch hex
theorem x_ifnonnull {n : Int} {op len : Nat} {a b : Int} {q : Nat × Lo × List AV × Mem × Sh} (cx : Cx p R s m args meth c Γ E y) (hd : decode (bcY y) pc = .ok (.ifnonnull n, len)) (hc : chkI y pc op a b len (.ifnonnull n) = true) (hex : exStep clO (sws y pc) y (op, a, b, pc + len) ls st M sh = some (.inl q)) (k : SW p l e R s m args below meth c Γ E y n0 k0 Q q.1 q.2.1 q.2.2.1 q.2.2.2.1 q.2.2.2.2) : SW p l e R s m args below meth c Γ E y n0 k0 Q pc ls st M sh := by
  simp only [chkI, Bool.and_eq_true, beq_iff_eq, decide_eq_true_eq] at hc
  obtain ⟨⟨⟨rfl, hb⟩, h0⟩, rfl⟩ := hc
  rcases st with _ | ⟨v1 | v1 | v1, st⟩
  · exact nomatch (show (none : Option Nx) = some (.inl q) from hex)
  · exact nomatch (show (none : Option Nx) = some (.inl q) from hex)
  · exact nomatch (show (none : Option Nx) = some (.inl q) from hex)
  · replace hex : (if v1 ≠ -1000 then goN (if v1 = 0 then pc + 3 else b.toNat) ls st M sh else none) = some (.inl q) := hex
    split at hex
    · rename_i hr
      obtain rfl := Sum.inl.inj (Option.some.inj hex)
      intro H locs lsA hX hS hL
      by_cases hz : v1 = 0
      · have k : SW p l e R s m args below meth c Γ E y n0 k0 Q (pc + 3) ls st M sh := by have := k; rw [if_pos hz] at this; exact this
        refine W.stk (w := .null) ?_ ?_
        · show _ = va_rf (gS Γ v1)
          rw [hz, gS_0 cx.2.2.2.2.2.2.1]
          rfl
        · exact lv_ifnonnullN cx.1 cx.2.1 hd (k H locs lsA hX hS hL)
      · have k : SW p l e R s m args below meth c Γ E y n0 k0 Q (b.toNat) ls st M sh := by have := k; rw [if_neg hz] at this; exact this
        obtain ⟨a1, ha1⟩ := cx.2.2.2.2.2.2.1.2.2.2.2.2.2 v1 hz hr
        refine W.stk (w := .ref a1) ?_ ?_
        · show _ = va_rf (gS Γ v1)
          rw [ha1]
          rfl
        · exact lv_ifnonnull cx.1 cx.2.1 hd (ofs_to hb h0) (k H locs lsA hX hS hL)
    · exact nomatch hex
theorem x_goto {n : Int} {op len : Nat} {a b : Int} {q : Nat × Lo × List AV × Mem × Sh} (cx : Cx p R s m args meth c Γ E y) (hd : decode (bcY y) pc = .ok (.goto n, len)) (hc : chkI y pc op a b len (.goto n) = true) (hex : exStep clO (sws y pc) y (op, a, b, pc + len) ls st M sh = some (.inl q)) (k : SW p l e R s m args below meth c Γ E y n0 k0 Q q.1 q.2.1 q.2.2.1 q.2.2.2.1 q.2.2.2.2) : SW p l e R s m args below meth c Γ E y n0 k0 Q pc ls st M sh := by
  simp only [chkI, Bool.and_eq_true, beq_iff_eq, decide_eq_true_eq] at hc
  obtain ⟨⟨⟨rfl, hb⟩, h0⟩, rfl⟩ := hc
  obtain rfl := Sum.inl.inj (Option.some.inj hex)
  intro H locs lsA hX hS hL
  exact lv_goto cx.1 cx.2.1 hd (ofs_to hb h0) (k H locs lsA hX hS hL)
end SIM
