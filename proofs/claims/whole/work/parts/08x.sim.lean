/-! THE STEPS, part seven: calls, and the whole run. -/
theorem exA_sh {op : Nat} {a b : Int} {nx : Nat} {ls : Lo} {st : List AV} {M : Mem} {sh : Sh} {q : Nat × Lo × List AV × Mem × Sh} (h : exA op a b nx ls st M sh = some (.inl q)) : q.2.2.2.2 = sh := by
  unfold exA at h
  split at h <;> (repeat' split at h) <;> first | (obtain rfl := Sum.inl.inj (Option.some.inj h); rfl) | cases h
theorem exB_sh {op nx : Nat} {ls : Lo} {st : List AV} {M : Mem} {sh : Sh} {q : Nat × Lo × List AV × Mem × Sh} (h : exB op nx ls st M sh = some (.inl q)) : q.2.2.2.2 = sh := by
  unfold exB at h
  repeat' split at h
  all_goals first | (obtain ⟨w, -, h⟩ := Option.bind_eq_some_iff.mp h; obtain rfl := Sum.inl.inj (Option.some.inj h); rfl) | cases h
theorem exC_sh {sw : List (Int × Nat)} {op : Nat} {a b : Int} {nx : Nat} {ls : Lo} {st : List AV} {M : Mem} {sh : Sh} {q : Nat × Lo × List AV × Mem × Sh} (h : exC sw op a b nx ls st M sh = some (.inl q)) : q.2.2.2.2 = sh := by
  unfold exC at h
  split at h <;> (try split at h) <;> (try (split at h)) <;> first | (obtain rfl := Sum.inl.inj (Option.some.inj h); rfl) | cases h
theorem exD_sh {y op : Nat} {a b : Int} {nx : Nat} {ls : Lo} {st : List AV} {M : Mem} {sh : Sh} {q : Nat × Lo × List AV × Mem × Sh} (h : exD y op a b nx ls st M sh = some (.inl q)) : ∃ t, q.2.2.2.2 = sh ++ t := by
  unfold exD at h
  split at h <;> (repeat' split at h) <;> first | (obtain rfl := Sum.inl.inj (Option.some.inj h); first | exact ⟨[], (List.append_nil sh).symm⟩ | exact ⟨_, rfl⟩) | cases h
theorem exE_sh {op : Nat} {a b : Int} {nx : Nat} {ls : Lo} {st : List AV} {M : Mem} {sh : Sh} {q : Nat × Lo × List AV × Mem × Sh} (h : exE clO op a b nx ls st M sh = some (.inl q)) : q.2.2.2.2 = sh := by
  unfold exE at h
  split at h <;> (repeat' split at h) <;> first | (obtain rfl := Sum.inl.inj (Option.some.inj h); rfl) | cases h
theorem ex_mono {sw : List (Int × Nat)} {y : Nat} {i : Ins} {ls : Lo} {st : List AV} {M : Mem} {sh : Sh} {q : Nat × Lo × List AV × Mem × Sh} (h : exStep clO sw y i ls st M sh = some (.inl q)) : ∃ t, q.2.2.2.2 = sh ++ t := by
  have z : q.2.2.2.2 = sh → ∃ t, q.2.2.2.2 = sh ++ t := fun e => ⟨[], by rw [e, List.append_nil]⟩
  unfold exStep at h
  split at h
  · exact z (exA_sh h)
  · split at h
    · exact z (exB_sh h)
    · split at h
      · exact z (exC_sh h)
      · split at h
        · exact exD_sh h
        · split at h
          · exact z (exE_sh h)
          · cases hr : exR i.1 i.2.1 st with
            | none => rw [hr] at h; cases h
            | some w => rw [hr] at h; cases h
theorem run_mono : ∀ (n y pc : Nat) (ls : Lo) (st : List AV) (M : Mem) (sh : Sh) (r : AV) (M' : Mem) (sh' : Sh), run n y pc ls st M sh = some (r, M', sh') → ∃ t, sh' = sh ++ t
  | 0, _, _, _, _, _, _, _, _, _, h => nomatch h
  | n + 1, y, pc, ls, st, M, sh, r, M', sh', h => by
    unfold run at h
    split at h
    · cases h
    · split at h
      · cases h
      · rename_i hx
        obtain ⟨t1, e1⟩ := ex_mono hx
        obtain ⟨t2, e2⟩ := run_mono n _ _ _ _ _ _ _ _ _ h
        exact ⟨t1 ++ t2, by rw [e2, e1, List.append_assoc]⟩
      · split at h
        · split at h
          · cases h
          · rename_i r1 hr
            obtain ⟨t1, e1⟩ := run_mono n _ _ _ _ _ _ r1.1 r1.2.1 r1.2.2 hr
            obtain ⟨t2, e2⟩ := run_mono n _ _ _ _ _ _ _ _ _ h
            exact ⟨t1 ++ t2, by rw [e2, e1, List.append_assoc]⟩
        · cases h
      · cases h
        exact ⟨[], (List.append_nil _).symm⟩
theorem mono_le {sh t : Sh} : sh.length ≤ (sh ++ t).length ∧ slotsOf sh ≤ slotsOf (sh ++ t) := by
  rw [so_app, List.length_append]
  omega
theorem EnvOk.to {Γ : Gm} {E : Em} {s U : State} {H : Heap} {locs : List Loc} (h : EnvOk Γ E s s.heap) (hW : s.WarmedH U.vm) (hS : va_S (ASet Γ) s.heap H locs) (hg : GmOk Γ E) (hb : gB Γ ≤ s.heap.size) : EnvOk Γ E U H := by
  obtain ⟨h1, h2, h3, h4, h5, h6, h7, h8, h9, h10⟩ := h
  have hal := hW.alike
  have hq : ∀ a : Nat, a < s.heap.size → ¬ ASet Γ a → H[a]? = s.heap[a]? := hS.2.1
  exact ⟨va_K.moved hal h1, fun e he => va_Z.moved hal ((h2 e he).kept hq), va_Z.moved hal (h3.kept hq), vk_S.moved hal (h4.kept hq), fun e he => vk_R.warm hW (h5 e he), va_X.moved hal (h6.kept (hq _ (Nat.lt_of_lt_of_le hg.2.2.2.2.1 hb) (Nat.not_le.mpr hg.2.2.2.2.1))), fun e he hn => va_Nw.warmM hW (h7 e he hn), va_AO.moved hal h8, over_moved hal h9, over_moved hal h10⟩
theorem EnvOk.blind {Γ : Gm} {E : Em} {U : State} {H : Heap} {g : JFrame} {mk : MethodId} {a : Array Value} (h : EnvOk Γ E U H) : EnvOk Γ E (U.calling g mk a) H := by
  obtain ⟨h1, h2, h3, h4, h5, h6, h7, h8, h9, h10⟩ := h
  have hal : U.vm.Alike (U.calling g mk a).vm := Vm.Alike.refl U.vm
  exact ⟨va_K.moved hal h1, fun e he => va_Z.moved hal (h2 e he), va_Z.moved hal h3, vk_S.moved hal h4, fun e he => vk_R.same rfl (h5 e he), va_X.moved hal h6, fun e he hn => va_Nw.same rfl rfl (h7 e he hn), va_AO.moved hal h8, over_moved hal h9, over_moved hal h10⟩
def PcE (Γ : Gm) (E : Em) (as : List AV) (M : Mem) (sh : Sh) : Array Value → State → Prop := fun v U => v = (as.map (vlV Γ)).toArray ∧ HX Γ E M sh U.heap ∧ EnvOk Γ E U U.heap
def rmE (z mc ms : Nat) : Room := { frames := (frT.getD z (0, 0)).1, cells := mc, slots := ms, locals := (frT.getD z (0, 0)).2 }
def wsE (z : Nat) : List Cond := Cond.code (nmY z) (bcY z) (mxL z) (rtY z) :: lw_good
def SimOk (n : Nat) : Prop := ∀ (y pc : Nat) (ls : Lo) (st : List AV) (M : Mem) (sh : Sh) (r : AV) (M' : Mem) (sh' : Sh), run n y pc ls st M sh = some (r, M', sh') → ∀ {p : Program} {l : Launch} {e : Env} {R : Room} {s : State} {m : MethodId} {args : Array Value} {below : List Frame} {meth : Method} {c : Code} {Γ : Gm} {E : Em} {n0 k0 : Nat}, Cx p R s m args meth c Γ E y → n0 ≤ sh.length → k0 ≤ slotsOf sh → sh'.length - n0 ≤ R.cells → slotsOf sh' - k0 ≤ R.slots → SW p l e R s m args below meth c Γ E y n0 k0 (MQ below (QcE Γ E y r M' sh') args s (sh'.length - n0) (slotsOf sh' - k0) (ASet Γ)) pc ls st M sh
theorem ox_all : ((List.range 298).all fun z => Nat.blt (oxY z) 17) = true := by decide +kernel
theorem on_mh : ∀ x : Nat, x < 17 → onN x ≠ "java/lang/invoke/MethodHandle" ∧ onN x ≠ "java/lang/invoke/VarHandle" := by decide +kernel
theorem wd_of {z : Nat} (hz : z < 298) : (nmY z).cls = onN (oxY z) ∧ clO z = (if Nat.blt (oxY z) 13 = true then oxY z else if (oxY z == 13) = true then 40 else 99) ∧ plainName (nmY z).cls = true ∧ (if isSt z = true then Cond.static (nmY z) else Cond.instanceMethod (nmY z)) ∈ lw_good ∧ (isSt z = false → isIni z = false → Cond.selects (onN (oxY z)) (nmY z) (nmY z) ∈ lw_good) ∧ Cond.initialized (onN (oxY z)) ∈ lw_good ∧ ((nmY z).cls ≠ "java/lang/invoke/MethodHandle" ∧ (nmY z).cls ≠ "java/lang/invoke/VarHandle") := by
  have h := (wd_all z hz).1
  unfold wdOk at h
  simp only [Bool.and_eq_true, beq_iff_eq] at h
  obtain ⟨⟨⟨⟨⟨h1, h2⟩, h3⟩, h4⟩, h5⟩, h6⟩ := h
  refine ⟨h1, by simpa only [beq_iff_eq] using h2, h3, mb_in h4, fun hs hi => ?_, mb_in h6, ?_⟩
  · rw [hs, hi] at h5
    exact mb_in h5
  · rw [h1]
    exact on_mh _ (Nat.blt_eq.mp (List.all_eq_true.mp ox_all z (List.mem_range.mpr hz)))
theorem good_ws (z : Nat) (hz : z < 298) : GoodIn lw_good (wsE z) := by
  have hg : ∀ w ∈ lw_good, w ∈ lw_good ∧ ((w.onTables && w.keeps) = true ∨ ∃ ty, w = .arrayClass ty) := fun w hw => ⟨hw, good_of_word (List.mem_filter.mp hw).2⟩
  intro w hw
  rcases List.mem_cons.mp hw with rfl | hw
  · exact hg _ (good_in (cd_in z hz) rfl)
  · exact hg w hw
theorem good_pre {z : Nat} (hz : z < 298) {pre : List Cond} (h : ∀ w ∈ pre, w ∈ lw_good) : GoodIn lw_good (pre ++ wsE z) := by
  intro w hw
  rcases List.mem_append.mp hw with hw | hw
  · exact ⟨h w hw, good_of_word (List.mem_filter.mp (h w hw)).2⟩
  · exact good_ws z hz w hw
theorem met_of {n z : Nat} {as : List AV} {M : Mem} {sh : Sh} {r : AV} {M' : Mem} {sh' : Sh} (IH : SimOk n) (hz : z < 298) (hlen : (padL as).length ≤ mxL z) (hr : run n z 0 (entL z as) [] M sh = some (r, M', sh')) {l : Launch} {Γ : Gm} {E : Em} (hg : GmOk Γ E) : Met l (nmY z) (wsE z) (rmE z (sh'.length - sh.length) (slotsOf sh' - slotsOf sh)) (PcE Γ E as M sh) (QcE Γ E z r M' sh') (sh'.length - sh.length) (slotsOf sh' - slotsOf sh) (ASet Γ) := by
  obtain ⟨h1, -, h3, -⟩ := wd_of hz
  refine Met.ofW (cc := bcY z) (maxL := mxL z) (ret := rtY z) h3 rfl ?_
  intro p e s m args below meth c s₁ B hml hv
  obtain ⟨rfl, hX, hEnv⟩ := hv
  rw [lg_entry_eq]
  have hts := atoms_spec (ws := wsE z) B.pre
  have hown : s.vm.findClass (onN (oxY z)) = some m.cls := by rw [← h1]; exact findClass_of_methodNamed B.named
  have cx : Cx p (rmE z (sh'.length - sh.length) (slotsOf sh' - slotsOf sh)) s m (as.map (vlV Γ)).toArray meth c Γ E z := ⟨B.exec, B.bytes, hml, hown, fun w hw => hts w (List.mem_cons_of_mem _ hw), hEnv, hg, by rw [hX.1.2]; exact Nat.le_add_right _ _, B.returns, B.notSynchronized, Nat.le_refl _, Nat.le_refl _, fun h => by rw [(name_of_methodNamed B.named B.method).1]; exact beq_iff_eq.mp h⟩
  have h := IH z 0 (entL z as) [] M sh r M' sh' hr (l := l) (e := e) (below := below) cx (Nat.le_refl _) (Nat.le_refl _) (Nat.le_refl _) (Nat.le_refl _)
  have h2 := h s.heap [] _ hX va_S.rf (LR.entry hlen)
  rw [Nat.sub_self, Nat.sub_self] at h2
  exact h2
theorem call_ok : ((List.range 299).all fun y => (tbl y).all fun e => if e.2.1 == 80 then !isSt e.2.2.1.toNat && !isIni e.2.2.1.toNat && Nat.blt (clO e.2.2.1.toNat) 99 && Nat.blt e.2.2.1.toNat 298 else if e.2.1 == 81 then !isSt e.2.2.1.toNat && isIni e.2.2.1.toNat && Nat.blt (clO e.2.2.1.toNat) 13 && Nat.blt e.2.2.1.toNat 298 && rtK e.2.2.1.toNat == 0 && decide (rtY e.2.2.1.toNat = none) else if e.2.1 == 82 then isSt e.2.2.1.toNat && Nat.blt e.2.2.1.toNat 298 else true) = true := by decide +kernel
section SIM
variable {p : Program} {l : Launch} {e : Env} {R : Room} {s : State} {m : MethodId} {args : Array Value} {below : List Frame} {meth : Method} {c : Code} {Q : State → Prop}
variable {Γ : Gm} {E : Em} {y n0 k0 pc : Nat} {ls : Lo} {st : List AV} {M : Mem} {sh : Sh}
theorem s_next {H : Heap} {locs : List Loc} {cells slots mc ms z : Nat} {lsA : Array Slot} {st0 rest : List Value} {a : Array Value} {r : AV} {M' : Mem} {sh' : Sh} (hr : va_Run p l e R s m args below meth c H locs cells slots mc ms (F0 m pc lsA st0) rest (QcE Γ E z r M' sh' a) (ASet Γ)) (hS : va_S (ASet Γ) s.heap H locs) (kk : ∀ (H1 : Heap) (locs1 : List Loc), HX Γ E M' sh' H1 → va_S (ASet Γ) s.heap H1 locs1 → W p l e R s m args below meth c H1 locs1 (cells + mc) (slots + ms) Q (F0 m (pc + 3) lsA ((if rtK z = 0 then none else some (vlV Γ r)).toList ++ rest))) : W p l e R s m args below meth c H locs cells slots Q (F0 m pc lsA st0) := by
  intro T hT X
  obtain ⟨v, st₀, t, T', L, h0, X', hL, e1, e2, ⟨hv, hX, hF1, hF2⟩, sgo⟩ := hr T hT X
  have hv : v = (if rtK z = 0 then none else some (vlV Γ r)) := by cases hv; rfl
  subst hv
  rw [h0] at hF1 hF2
  obtain ⟨t2, a1, b1⟩ := kk T'.heap (locs ++ L) (by rw [e1]; exact hX)
    ⟨Nat.le_trans hS.1 (by rw [e1]; exact hF1), fun q h1 h2 => by rw [e1, hF2 q (Nat.lt_of_lt_of_le h1 hS.1) h2]; exact hS.2.1 q h1 h2, fun q hq => by
      rcases List.mem_append.mp hq with h | h
      · exact hS.2.2 q h
      · exact hL q h⟩ T' rfl X'
  exact ⟨t2, sgo t2 a1, b1⟩
theorem push_eq (z : Nat) (r : AV) (st' : List AV) : (pushR z r st').map (vlV Γ) = (if rtK z = 0 then none else some (vlV Γ r)).toList ++ st'.map (vlV Γ) := by
  unfold pushR
  by_cases h : rtK z = 0
  · rw [if_pos h, if_pos h]; rfl
  · rw [if_neg h, if_neg h]; rfl
theorem blind_E {as : List AV} : FrameBlind (PcE Γ E as M sh) := fun a U g mk h => ⟨h.1, h.2.1, h.2.2.blind⟩
theorem inv_80 {sw : List (Int × Nat)} {a b : Int} {nx : Nat} {q : Nat × List AV × Nat × List AV} (h : exStep clO sw y (80, a, b, nx) ls st M sh = some (.inr (.inl q))) : ∃ (r : Int) (As : List AV), q.1 = a.toNat ∧ q.2.1 = vR r :: As ∧ q.2.2.1 = nx ∧ st = As.reverse ++ vR r :: q.2.2.2 ∧ As.length = b.toNat ∧ (shA sh r).1 = clO a.toNat ∧ wsum q.2.2.2 ≤ 8 := by
  replace h : exE clO 80 a b nx ls st M sh = some (.inr (.inl q)) := h
  simp only [exE] at h
  split at h
  · rename_i r rest hdrop
    split at h
    · rename_i hg
      cases h
      refine ⟨r, (st.take b.toNat).reverse, rfl, rfl, rfl, ?_, ?_, hg.2.1, hg.2.2⟩
      · rw [List.reverse_reverse, ← hdrop, List.take_append_drop]
      · rw [List.length_reverse, List.length_take]; omega
    · cases h
  · cases h
theorem inv_81 {sw : List (Int × Nat)} {a b : Int} {nx : Nat} {q : Nat × List AV × Nat × List AV} (h : exStep clO sw y (81, a, b, nx) ls st M sh = some (.inr (.inl q))) : ∃ (r : Int) (As : List AV), q.1 = a.toNat ∧ q.2.1 = vR r :: As ∧ q.2.2.1 = nx ∧ st = As.reverse ++ vR r :: q.2.2.2 ∧ As.length = b.toNat ∧ 0 < r ∧ (shA sh r).1 = clO a.toNat ∧ wsum q.2.2.2 ≤ 8 := by
  replace h : exE clO 81 a b nx ls st M sh = some (.inr (.inl q)) := h
  simp only [exE] at h
  split at h
  · rename_i r rest hdrop
    split at h
    · rename_i hg
      cases h
      refine ⟨r, (st.take b.toNat).reverse, rfl, rfl, rfl, ?_, ?_, hg.2.1, hg.2.2.1, hg.2.2.2⟩
      · rw [List.reverse_reverse, ← hdrop, List.take_append_drop]
      · rw [List.length_reverse, List.length_take]; omega
    · cases h
  · cases h
theorem inv_82 {sw : List (Int × Nat)} {a b : Int} {nx : Nat} {q : Nat × List AV × Nat × List AV} (h : exStep clO sw y (82, a, b, nx) ls st M sh = some (.inr (.inl q))) : ∃ (As : List AV), q.1 = a.toNat ∧ q.2.1 = As ∧ q.2.2.1 = nx ∧ st = As.reverse ++ q.2.2.2 ∧ As.length = b.toNat ∧ wsum q.2.2.2 ≤ 8 := by
  replace h : exE clO 82 a b nx ls st M sh = some (.inr (.inl q)) := h
  simp only [exE] at h
  split at h
  · rename_i hg
    cases h
    refine ⟨(st.take b.toNat).reverse, rfl, rfl, rfl, ?_, ?_, hg.2⟩
    · rw [List.reverse_reverse, List.take_append_drop]
    · rw [List.length_reverse, List.length_take]; omega
  · cases h
/-- what a call needs, found once -/
theorem x_call {z n x : Nat} {As : List AV} {rr : List AV} {st' : List AV} {r : AV} {M1 : Mem} {sh1 : Sh} {ins : Instr} (IH : SimOk n) (cx : Cx p R s m args meth c Γ E y) (hz : z < 298) (hlen : (padL (rr ++ As)).length ≤ mxL z) (hrun : run n z 0 (entL z (rr ++ As)) [] M sh = some (r, M1, sh1)) (hn0 : n0 ≤ sh.length) (hk0 : k0 ≤ slotsOf sh) (hc1 : sh1.length - n0 ≤ R.cells) (hc2 : slotsOf sh1 - k0 ≤ R.slots) (hst : st = As.reverse ++ (rr ++ st')) (hw : wsum st' ≤ 8) (hroom : roomE y z = true) (hpar : (parseMethodDescriptor (nmY z).desc).map (fun d => d.parameters.length) = some As.length)
    (hkind : (ins = .invokevirtual x ∧ isSt z = false ∧ isIni z = false ∧ Cond.methodLink (onN (oxY y)) x (nmY z) ∈ lw_good ∧ ∃ k : Int, rr = [vR k] ∧ (shA sh k).1 = clO z ∧ clO z < 99) ∨
      (ins = .invokespecial x ∧ isSt z = false ∧ isIni z = true ∧ (Cond.methodLink (onN (oxY y)) x (nmY z) ∈ lw_good ∨ ∃ e ∈ metT, e.1 = oxY y ∧ e.2.1 = x ∧ e.2.2.1 = z ∧ e.2.2.2.1 ≠ 0) ∧ rtY z = none ∧ ∃ k : Int, rr = [vR k] ∧ 0 < k) ∨
      (ins = .invokestatic x ∧ isSt z = true ∧ Cond.methodLink (onN (oxY y)) x (nmY z) ∈ lw_good ∧ rr = []))
    (hd : decode (bcY y) pc = .ok (ins, 3)) (kk : SW p l e R s m args below meth c Γ E y n0 k0 Q (pc + 3) ls (pushR z r st') M1 sh1) : SW p l e R s m args below meth c Γ E y n0 k0 Q pc ls st M sh := by
  intro H locs lsA hX hS hL
  obtain ⟨w1, w2, w3, w4, w5, w6, w7⟩ := wd_of hz
  have hg := cx.2.2.2.2.2.2.1
  have hM := met_of (l := l) (Γ := Γ) (E := E) IH hz hlen hrun hg
  obtain ⟨t1, rfl⟩ := run_mono _ _ _ _ _ _ _ _ _ _ hrun
  have hm := mono_le (sh := sh) (t := t1)
  unfold roomE at hroom
  rw [Bool.and_eq_true, Nat.ble_eq, Nat.ble_eq] at hroom
  have hf := cx.2.2.2.2.2.2.2.2.2.2
  have hR : (rmE z ((sh ++ t1).length - sh.length) (slotsOf (sh ++ t1) - slotsOf sh)).frames + 1 ≤ R.frames ∧ 8 + (mxL z + 11) + (rmE z ((sh ++ t1).length - sh.length) (slotsOf (sh ++ t1) - slotsOf sh)).locals ≤ R.locals := ⟨Nat.le_trans hroom.1 hf.1, Nat.le_trans hroom.2 hf.2.1⟩
  have hEnv : ∀ U : State, U.heap = H → s.WarmedH U.vm → EnvOk Γ E U U.heap := fun U hU hW => by
    rw [hU]
    exact cx.2.2.2.2.2.1.to hW hS hg cx.2.2.2.2.2.2.2.1
  have hkk : ∀ (H1 : Heap) (locs1 : List Loc), HX Γ E M1 (sh ++ t1) H1 → va_S (ASet Γ) s.heap H1 locs1 → W p l e R s m args below meth c H1 locs1 (sh.length - n0 + ((sh ++ t1).length - sh.length)) (slotsOf sh - k0 + (slotsOf (sh ++ t1) - slotsOf sh)) Q (F0 m (pc + 3) lsA ((if rtK z = 0 then none else some (vlV Γ r)).toList ++ st'.map (vlV Γ))) := by
    intro H1 locs1 hX1 hS1
    have h9 := kk H1 locs1 lsA hX1 hS1 hL
    rw [push_eq] at h9
    rw [show sh.length - n0 + ((sh ++ t1).length - sh.length) = (sh ++ t1).length - n0 by omega, show slotsOf sh - k0 + (slotsOf (sh ++ t1) - slotsOf sh) = slotsOf (sh ++ t1) - k0 by omega]
    exact h9
  have hfit : sh.length - n0 + ((sh ++ t1).length - sh.length) ≤ R.cells ∧ slotsOf sh - k0 + (slotsOf (sh ++ t1) - slotsOf sh) ≤ R.slots := by omega
  have hwr : 2 * (F0 m pc lsA (st.map (vlV Γ))).monitorRoom + ((st'.map (vlV Γ)).map fun v => v.category).sum ≤ 8 := by rw [wsum_eq]; show 2 * 0 + _ ≤ 8; omega
  have fix : CallFix p m c (bcY y) (mxL y) s args lw_good (onN (oxY y)) := ⟨cx.1, cx.2.1, cx.2.2.1, cx.2.2.2.1, cx.2.2.2.2.1⟩
  have hlA : (As.map (vlV Γ)).length = As.length := List.length_map ..
  subst hst
  rcases hkind with ⟨rfl, hs, hi, hlink, k, rfl, hk, hc99⟩ | ⟨rfl, hs, hi, hlink, hrt, k, rfl, hk⟩ | ⟨rfl, hs, hlink, rfl⟩
  · -- virtual
    rw [if_neg (by rw [hs]; decide)] at w4
    have hrecv : ∃ b : Addr, vlV Γ (vR k) = .ref b ∧ ∃ cellB : Cell, H[b]? = some cellB ∧ cellB.vm.isStatics = false ∧ s.vm.findClass (onN (oxY z)) = some cellB.cls := by
      by_cases h13 : Nat.blt (oxY z) 13 = true
      · rw [if_pos h13] at w2
        have h13 := Nat.blt_eq.mp h13
        rw [w2] at hk
        have hp := sh_pos hk (by omega) (by omega) (by omega)
        have he := wrl_at Γ M hp (sh_lt hp hk (by omega))
        rw [en_o (by rw [hk]; exact h13), hk] at he
        exact ⟨_, rf_pos cx hp, va_recv cx.2.2.2.2.2.1.1 hX.1.1 (cls_get _ h13) he⟩
      · rw [if_neg h13] at w2
        by_cases h3 : (oxY z == 13) = true
        · rw [if_pos h3] at w2
          rw [w2] at hk
          obtain ⟨i, hi, rfl⟩ := sh_40 hX.2.2 hk
          have h3 := beq_iff_eq.mp h3
          rw [h3]
          refine ⟨E.1 i, ?_, vk_recv cx.2.2.2.2.2.1.2.2.2.1 hi hS⟩
          show va_rf (gS Γ _) = _
          rw [hg.2.1 i hi]
          rfl
        · rw [if_neg h3] at w2
          omega
    obtain ⟨b, hb, hcell⟩ := hrecv
    have hstk : ((As.reverse ++ ([vR k] ++ st')).map (vlV Γ)) = (As.map (vlV Γ)).reverse ++ .ref b :: st'.map (vlV Γ) := by
      rw [List.map_append, List.map_reverse]
      show _ ++ vlV Γ (vR k) :: _ = _
      rw [hb]
      rfl
    have hpre : PreV s H (onN (oxY z)) b (PcE Γ E ([vR k] ++ As) M sh) (As.map (vlV Γ)) := ⟨blind_E, hcell, fun U hU hW => ⟨by
      show _ = ((vlV Γ (vR k)) :: As.map (vlV Γ)).toArray
      rw [hb], by rw [hU]; exact hX, hEnv U hU hW⟩⟩
    have cw := cwV (R := R) (args := args) (own := onN (oxY y)) (C := onN (oxY z)) (index := x) (y := nmY z) (bytes := bcY z) (maxL := mxL z) (ret := rtY z) (ws := wsE z) (ws' := lw_good) (rm := rmE z ((sh ++ t1).length - sh.length) (slotsOf (sh ++ t1) - slotsOf sh)) As.length cx.2.2.2.2.1 (good_pre hz (pre := [.methodLink (onN (oxY y)) x (nmY z), .instanceMethod (nmY z), .selects (onN (oxY z)) (nmY z) (nmY z), .initialized (onN (oxY z))]) (by
      intro w hw
      simp only [List.mem_cons, List.not_mem_nil, or_false] at hw
      rcases hw with rfl | rfl | rfl | rfl
      · exact hlink
      · exact w4
      · exact w5 hs hi
      · exact w6)) rfl rfl rfl ⟨w1, w7.1, w7.2, hpar⟩ hR
    exact s_next (va_runV fix hM cw hpre rfl hlA hL.1.1 hstk hwr hd hfit) hS hkk
  · -- special
    rw [if_neg (by rw [hs]; decide)] at w4
    have hb := rf_pos cx hk
    have hstk : ((As.reverse ++ ([vR k] ++ st')).map (vlV Γ)) = (As.map (vlV Γ)).reverse ++ .ref (gB Γ + (k - 1).toNat) :: st'.map (vlV Γ) := by
      rw [List.map_append, List.map_reverse]
      show _ ++ vlV Γ (vR k) :: _ = _
      rw [hb]
      rfl
    have hpre : PreS s H (PcE Γ E ([vR k] ++ As) M sh) (.ref (gB Γ + (k - 1).toNat) :: As.map (vlV Γ)) := ⟨blind_E, fun U hU hW => ⟨by
      show _ = ((vlV Γ (vR k)) :: As.map (vlV Γ)).toArray
      rw [hb], by rw [hU]; exact hX, hEnv U hU hW⟩⟩
    have hnm : (nmY z).name = "<init>" := beq_iff_eq.mp hi
    have hini : (Cond.initialized (nmY z).cls).before args s = true := by rw [w1]; exact cx.2.2.2.2.1 _ w6
    have hwsr : wsE z = Cond.code (nmY z) (bcY z) (mxL z) none :: lw_good := by unfold wsE; rw [hrt]
    rcases hlink with hlink | ⟨e1, he, g1, g2, g3, g4⟩
    · have cw := cwI (R := R) (args := args) (own := onN (oxY y)) (index := x) (y := nmY z) (bytes := bcY z) (maxL := mxL z) (ws := wsE z) (ws' := lw_good) (rm := rmE z ((sh ++ t1).length - sh.length) (slotsOf (sh ++ t1) - slotsOf sh)) As.length cx.2.2.2.2.1 (good_ws z hz) hwsr rfl rfl hini (cx.2.2.2.2.1 _ hlink) (cx.2.2.2.2.1 _ w4) hnm ⟨w7.1, w7.2, hpar⟩ hR
      exact s_next (va_runI fix hM cw hpre rfl hlA hL.1.1 hstk hwr hd hfit) hS hkk
    · have hN := cx.2.2.2.2.2.1.2.2.2.2.2.2.1 e1 he g4
      rw [g1, g2, g3] at hN
      have cw := va_cnB (R := R) (args := args) (own := onN (oxY y)) (host := nestH) (index := x) (y := nmY z) (bytes := bcY z) (maxL := mxL z) (ret := none) (ws := wsE z) (ws' := lw_good) (rm := rmE z ((sh ++ t1).length - sh.length) (slotsOf (sh ++ t1) - slotsOf sh)) As.length cx.2.2.2.2.1 (good_ws z hz) hwsr rfl rfl hN hini ⟨w7.1, w7.2, hpar⟩ hR
      exact s_next (va_runIN fix hM ⟨cw, hnm, cx.2.2.2.2.1 _ w4⟩ hpre rfl hlA hL.1.1 hstk hwr hd hfit) hS hkk
  · -- static
    rw [if_pos hs] at w4
    have hstk : ((As.reverse ++ ([] ++ st')).map (vlV Γ)) = (As.map (vlV Γ)).reverse ++ st'.map (vlV Γ) := by
      rw [List.map_append, List.map_reverse]
      rfl
    have hpre : PreS s H (PcE Γ E ([] ++ As) M sh) (As.map (vlV Γ)) := ⟨blind_E, fun U hU hW => ⟨rfl, by rw [hU]; exact hX, hEnv U hU hW⟩⟩
    have cw := va_cwS (R := R) (args := args) (own := onN (oxY y)) (index := x) (y := nmY z) (bytes := bcY z) (maxL := mxL z) (ret := rtY z) (ws := wsE z) (ws' := lw_good) (rm := rmE z ((sh ++ t1).length - sh.length) (slotsOf (sh ++ t1) - slotsOf sh)) As.length cx.2.2.2.2.1 (good_pre hz (pre := [.methodLink (onN (oxY y)) x (nmY z), .static (nmY z), .initialized (nmY z).cls]) (by
      intro w hw
      simp only [List.mem_cons, List.not_mem_nil, or_false] at hw
      rcases hw with rfl | rfl | rfl
      · exact hlink
      · exact w4
      · rw [w1]; exact w6)) rfl rfl rfl ⟨w7.1, w7.2, hpar⟩ hR
    exact s_next (va_runS fix hM cw hpre rfl hlA hL.1.1 hstk hwr hd hfit) hS hkk
end SIM
