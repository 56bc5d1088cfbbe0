/-! THE START: the bond between the two machines at the law's entry, out of what the statement gives; the law's end out of the small machine's. -/
def R_law : String := "SyllableMakerLaw"
def lw_P (b : Addr) (xs : List Int32) (args : Array Value) (s : State) : Prop := args = #[.ref b] ∧ s.IntsAt b xs ∧ xs.length ≤ 3072 ∧ (Jvm.Cond.and given_1 narrow_1).before args s = true
def lw_Q (_ : Array Value) (s : State) (o : Outcome) (t : State) : Prop := o = .returned (some (.int 1)) ∧ Framed s o t [] 600000 7302250
def lw_Z (below : List Frame) (a : Array Value) (s : State) : State → Prop := fun t => ∃ o, t.status = .running ∧ Ended t below o ∧ lw_Q a s o t
/-- the law's own end, with 1 on the stack, nothing written that was there before, its room as the claim has it -/
theorem lw_ret {p : Program} {l : Launch} {e : Env} {s : State} {m : MethodId} {below : List Frame} {meth : Method} {c : Code} {b : Nat} (hx : p.tables.exec = Jvm.exec) (hb : c.code = code) (hr : meth.sig.returnType = ret) (hlocks : meth.locks = false) {pc : Nat} {H : Heap} {ls : Array Slot} (hdg : decode code pc = .ok (.ireturn, 1)) : W p l e room_1 s m #[Value.ref b] below meth c H [] 600000 7302250 (lw_Z below #[Value.ref b] s) (F0 m pc ls [.int 1]) := by
  intro T hT X
  obtain ⟨fs, hret, hrun, hended, hW, hframe⟩ := X.leave (v := some (.int 1)) (hlocks := hlocks) (fun h => by rw [hr] at h; cases h)
  have hmeth' : T.vm.method? m = some meth := X.method'
  refine ⟨T.setFrames fs, ?_, .returned (some (.int 1)), hrun, hended, rfl, ⟨_, rfl⟩, hW, hframe⟩
  jvm_step X.here [X.here.top, hx, hb, hdg, hmeth', hr, ret, narrow_b1]
  (try refine ⟨rfl, ?_⟩); (try refine ⟨rfl, ?_⟩)
  first | (intro acts; rw [hret _ acts rfl rfl rfl]) | rw [hret _ _ rfl rfl rfl]
  exact Steps.refl _
/-- what holds at the law's entry: the machine, the code, the tables' words (any of lw_tbl by 'hts w (by decide +kernel)'), the script of L ints xs at the cell b, what the Statement gives of the start (any of its parts by flat_of_before) -/
def lw_At (p : Program) (s : State) (m : MethodId) (meth : Method) (c : Code) (b L : Nat) (xs : Nat → Int32) : Prop :=
  p.tables.exec = Jvm.exec ∧ c.code = code ∧ meth.sig.returnType = ret ∧ c.maxLocals = 4 ∧ s.vm.findClass R_law = some m.cls ∧ (∀ w ∈ lw_tbl, w.before #[Value.ref b] s = true) ∧ va_X b L xs s s.heap ∧ b < s.heap.size ∧ meth.locks = false ∧ (Jvm.Cond.and given_1 narrow_1).before #[Value.ref b] s = true
def NFl : List Cond := flatC (Jvm.Cond.and given_1 narrow_1)
def nb (pos : Nat) (w : Cond) : Bool := decide (NFl[pos]? = some w)
def exP : List Nat := [27, 36, 45, 56, 67, 79, 92, 107, 123, 141, 158, 176, 195, 215, 236, 259, 282, 307]
def coP : List Nat := [28, 37, 46, 57, 68, 80, 93, 108, 124, 142, 159, 177, 196, 216, 237, 260, 283, 308]
def arP : List Nat := [29, 38, 47, 58, 69, 81, 94, 109, 125, 143, 160, 178, 197, 217, 238, 261, 284, 309]
def leP : List Nat := [30, 39, 48, 59, 70, 82, 95, 110, 126, 144, 161, 179, 198, 218, 239, 262, 285, 310]
def elP : List (List Nat) := [[31, 32, 33, 34, 35], [40, 41, 42, 43], [49, 50, 51, 52, 53], [60, 61, 62, 63], [71, 72, 73, 74], [83, 84, 85, 86], [96, 97, 98, 99, 100], [111, 112, 113, 114, 115], [127, 128, 129, 130, 131, 132], [145, 146, 147, 148], [162, 163, 164, 165], [180, 181, 182, 183], [199, 200, 201, 202], [219, 220, 221, 222], [240, 241, 242, 243, 244], [263, 264, 265, 266], [286, 287, 288, 289, 290], [311, 312, 313, 314, 315]]
def neP : List (List Nat) := [[0, 44, 54, 64, 75, 87, 101, 116, 133, 149, 166, 184, 203, 223, 245, 267, 291, 316], [44, 0, 55, 65, 76, 88, 102, 117, 134, 150, 167, 185, 204, 224, 246, 268, 292, 317], [54, 55, 0, 66, 77, 89, 103, 118, 135, 151, 168, 186, 205, 225, 247, 269, 293, 318], [64, 65, 66, 0, 78, 90, 104, 119, 136, 152, 169, 187, 206, 226, 248, 270, 294, 319], [75, 76, 77, 78, 0, 91, 105, 120, 137, 153, 170, 188, 207, 227, 249, 271, 295, 320], [87, 88, 89, 90, 91, 0, 106, 121, 138, 154, 171, 189, 208, 228, 250, 272, 296, 321], [101, 102, 103, 104, 105, 106, 0, 122, 139, 155, 172, 190, 209, 229, 251, 273, 297, 322], [116, 117, 118, 119, 120, 121, 122, 0, 140, 156, 173, 191, 210, 230, 252, 274, 298, 323], [133, 134, 135, 136, 137, 138, 139, 140, 0, 157, 174, 192, 211, 231, 253, 275, 299, 324], [149, 150, 151, 152, 153, 154, 155, 156, 157, 0, 175, 193, 212, 232, 254, 276, 300, 325], [166, 167, 168, 169, 170, 171, 172, 173, 174, 175, 0, 194, 213, 233, 255, 277, 301, 326], [184, 185, 186, 187, 188, 189, 190, 191, 192, 193, 194, 0, 214, 234, 256, 278, 302, 327], [203, 204, 205, 206, 207, 208, 209, 210, 211, 212, 213, 214, 0, 235, 257, 279, 303, 328], [223, 224, 225, 226, 227, 228, 229, 230, 231, 232, 233, 234, 235, 0, 258, 280, 304, 329], [245, 246, 247, 248, 249, 250, 251, 252, 253, 254, 255, 256, 257, 258, 0, 281, 305, 330], [267, 268, 269, 270, 271, 272, 273, 274, 275, 276, 277, 278, 279, 280, 281, 0, 306, 331], [291, 292, 293, 294, 295, 296, 297, 298, 299, 300, 301, 302, 303, 304, 305, 306, 0, 332], [316, 317, 318, 319, 320, 321, 322, 323, 324, 325, 326, 327, 328, 329, 330, 331, 332, 0]]
def stP : List (Nat × Nat × Nat) := [(1729, 123, 16), (1737, 123, 20), (1739, 123, 21), (1717, 123, 14), (1723, 123, 15), (1701, 123, 12), (1753, 123, 24), (1759, 123, 25), (1689, 123, 11), (1684, 123, 10), (1707, 123, 13), (1733, 123, 18), (1731, 123, 17), (1666, 123, 9), (1747, 123, 23), (1741, 123, 22), (1735, 123, 19), (1765, 123, 26), (614, 125, 4), (648, 128, 6), (650, 128, 7), (652, 128, 8)]
def tmS (i : Nat) : Term := .string (onN (srT.getD i (0, 0, 0)).1) (srT.getD i (0, 0, 0)).2.1
def fvS (i : Nat) : Term := .field (tmS i) "java/lang/String" "value" "[B"
theorem nb_at {args : Array Value} {s : State} (h : (Jvm.Cond.and given_1 narrow_1).before args s = true) {pos : Nat} {w : Cond} (hw : nb pos w = true) : w.before args s = true :=
  flat_of_before _ h w (List.mem_of_getElem? (of_decide_eq_true hw))
theorem z_ex : ∀ i : Nat, i < 18 → (nb (exP.getD i 0) (.exactly (tmS i) "java/lang/String") && nb (coP.getD i 0) (.eq (.field (tmS i) "java/lang/String" "coder" "B") (.int 0)) && nb (arP.getD i 0) (.arrayOf (fvS i) .byte) && nb (leP.getD i 0) (.eq (.length (fvS i)) (.int (Int32.ofNat ((strT.map List.length).getD i 0))))) = true := by decide +kernel
theorem z_el : ∀ i : Nat, i < 18 → ∀ j : Nat, j < (strT.map List.length).getD i 0 → nb ((elP.getD i []).getD j 0) (.eq (.elem (fvS i) (.int (Int32.ofNat j))) (.int ((strB32.getD i []).getD j 0))) = true := by decide +kernel
theorem z_ne : ((List.range 18).all fun i => (List.range 18).all fun j => i == j || nb ((neP.getD i []).getD j 0) (.not (.eq (tmS i) (tmS j))) || nb ((neP.getD i []).getD j 0) (.not (.eq (tmS j) (tmS i)))) = true := by decide +kernel
theorem z_len : ∀ i : Nat, i < 18 → (strT.map List.length).getD i 0 < 2 ^ 31 := by decide +kernel
theorem z_st : ((List.range stT.length).all fun i => decide (lw_tbl[(stP.getD i (0, 0, 0)).1]? = some (.laysStatic (stT.getD i ("", "", "", 0)).1 (stT.getD i ("", "", "", 0)).2.1 (stT.getD i ("", "", "", 0)).2.2.1)) && decide (lw_tbl[(stP.getD i (0, 0, 0)).2.1]? = some (.initialized (stT.getD i ("", "", "", 0)).1)) && nb (stP.getD i (0, 0, 0)).2.2 (.eq (.static (stT.getD i ("", "", "", 0)).1 (stT.getD i ("", "", "", 0)).2.1 (stT.getD i ("", "", "", 0)).2.2.1) (if (stT.getD i ("", "", "", 0)).2.2.1 = "J" then .long (Int64.ofInt (stT.getD i ("", "", "", 0)).2.2.2) else .int (Int32.ofInt (stT.getD i ("", "", "", 0)).2.2.2)))) = true := by decide +kernel
theorem z_fm : (decide (lw_tbl[630]? = some (.laysStatic "jdk/internal/util/Preconditions" "SIOOBE_FORMATTER" "Ljava/util/function/BiFunction;")) && decide (lw_tbl[127]? = some (.initialized "jdk/internal/util/Preconditions")) && nb 5 (.isRef (.static "jdk/internal/util/Preconditions" "SIOOBE_FORMATTER" "Ljava/util/function/BiFunction;"))) = true := by decide +kernel
theorem z_sr : (srT.all fun e => Nat.blt e.2.2 18 && decide (srT.getD e.2.2 (0, 0, 0) = e)) = true := by decide +kernel
/-- the small machine's memory at the law's entry: the script alone -/
def M0 (L : Nat) (xs : Nat → Int32) : Mem := fun k j => if k = -2000 then (if j = -1 then (L : Int) else (xs j.toNat).toInt) else 0
theorem W.toQ {p : Program} {l : Launch} {e : Env} {R : Room} {s : State} {m : MethodId} {args : Array Value} {below : List Frame} {meth : Method} {c : Code} {H : Heap} {locs : List Loc} {cells slots : Nat} {Q Q' : State → Prop} {g : JFrame} (h : W p l e R s m args below meth c H locs cells slots Q g) (hQ : ∀ t, Q t → Q' t) : W p l e R s m args below meth c H locs cells slots Q' g := by
  intro T hT X
  obtain ⟨t, a, b⟩ := h T hT X
  exact ⟨t, a, hQ t b⟩
theorem z_cls {args : Array Value} {s : State} (hts : ∀ w ∈ lw_good, w.before args s = true) : ∃ (dC : Nat → ClassId) (dI : Nat → Nat → Nat), ∀ a : Nat, a < 13 → u_Kn s (onN a) (clTb a) (nF a) (dC a) (dI a) := by
  have h0 : ∀ a : Nat, ∃ (q : ClassId × (Nat → Nat)), a < 13 → u_Kn s (onN a) (clTb a) (nF a) q.1 q.2 := by
    intro a
    by_cases ha : a < 13
    · have hio := List.all_eq_true.mp in_ok a (List.mem_range.mpr ha)
      rw [Bool.and_eq_true] at hio
      obtain ⟨cC, iS, h⟩ := u_known (C := onN a) (T := clTb a) (N := nF a) (n := nF a) hts (cls_ws ha) (hts _ (mb_in hio.1))
      exact ⟨(cC, iS), fun _ => h⟩
    · exact ⟨(0, fun _ => 0), fun h => absurd h ha⟩
  obtain ⟨f, hf⟩ := Classical.axiomOfChoice h0
  exact ⟨fun a => (f a).1, fun a => (f a).2, hf⟩
theorem clsT_at : ∀ (k : Nat) (q : vw_C), clsT[k]? = some q → k < 13 ∧ q = (onN k, clTb k, nF k) := by
  intro k q h
  have hl : k < 13 := (List.getElem?_eq_some_iff.mp h).1
  rw [cls_get k hl] at h
  exact ⟨hl, (Option.some.inj h).symm⟩
theorem z_arr {args : Array Value} {s : State} {ty : FieldType} (h : (Cond.arrayClass ty).before args s = true) (hre : ∀ cA : ClassId, s.vm.findClass ("[" ++ ty.toString) = some cA → va_RA s cA ty) : ∃ cA : ClassId, ArrOfT s cA ty ∧ va_RA s cA ty := by
  obtain ⟨cA, kA, comp, h1, h2, h3⟩ := Cond.arrayClass_spec h
  exact ⟨cA, fun n z => ⟨fun k h => (by cases h), kA, h2, comp, h3⟩, hre cA h1⟩
theorem z_ovr {args : Array Value} {s : State} {ty : FieldType} (h : (Cond.arrayOver (.array ty)).before args s = true) : ∃ cA : ClassId, ArrOfT s cA (.array ty) ∧ va_RA s cA (.array ty) := by
  obtain ⟨comp, cA, kA, h1, h2, h3, h4, h5⟩ := arrayOverA_spec h
  exact ⟨cA, fun n z => ⟨fun k h => (by cases h), kA, h3, comp, h4⟩, h5⟩
theorem z_ovo {args : Array Value} {s : State} {C : String} (h : (Cond.arrayOver (.object C)).before args s = true) : ∃ cA : ClassId, ArrOfT s cA (.object C) ∧ va_RA s cA (.object C) := by
  obtain ⟨comp, cA, kA, h1, h2, h3, h4, h5⟩ := Cond.arrayOver_spec h
  exact ⟨cA, fun n z => ⟨fun k h => (by cases h), kA, h3, comp, h4⟩, kA, comp, h3, h4, h1, h5⟩
def gsF (adK adV : Nat → Nat) (b B : Nat) (fm : Option Nat) : Int → Option Nat := fun x => if x = 0 then none else if 0 < x then some (B + (x - 1).toNat) else if -18 ≤ x then some (adK (-1 - x).toNat) else if -118 ≤ x ∧ x ≤ -101 then some (adV (-101 - x).toNat) else if x = -2000 then some b else if x = -1000 then fm else some 0
def acF (c0 c1 c2 c3 c4 c5 c6 : ClassId) : Nat → ClassId := fun k => if k = 20 then c0 else if k = 21 then c1 else if k = 22 then c2 else if k = 23 then c3 else if k = 24 then c4 else if k = 25 then c5 else c6
theorem whole_of {p : Program} {e : Env} {s : State} {m : MethodId} {below : List Frame} {meth : Method} {c : Code} (l : Launch) {b L : Nat} {xs : Nat → Int32} (hL : L ≤ 3072) (C0 : lw_At p s m meth c b L xs) (hrun : ∃ (n : Nat) (M' : Mem) (sh' : Sh), run n LAWN 0 (entL LAWN [vR (-2000)]) [] (M0 L xs) [] = some (vI 1, M', sh') ∧ sh'.length ≤ 600000 ∧ slotsOf sh' ≤ 7302250) : W p l e room_1 s m #[Value.ref b] below meth c s.heap [] 0 0 (lw_Z below #[Value.ref b] s) (entryFrame m ([Value.ref b] : List Value).toArray 4) := by
  obtain ⟨hx, hb, hr, hml, hown, hts, hX, hbl, hlocks, hgv⟩ := id C0
  have hgood : ∀ w ∈ lw_good, w.before #[Value.ref b] s = true := fun w hw => hts w (List.mem_filter.mp hw).1
  obtain ⟨dC, dI, hcls⟩ := z_cls hgood
  have hA0 := arr_ok
  simp only [Bool.and_eq_true] at hA0
  obtain ⟨⟨⟨a1, a2⟩, a3⟩, a4⟩ := hA0
  have hO := over_ok
  simp only [Bool.and_eq_true, decide_eq_true_eq] at hO
  obtain ⟨⟨o1, o2⟩, o3⟩ := hO
  have ho1 := hts _ (List.mem_of_getElem? o1)
  have ho2 := hts _ (List.mem_of_getElem? o2)
  have ho3 := hts _ (List.mem_of_getElem? o3)
  obtain ⟨c0, k0⟩ := z_arr (hgood _ (mb_in a1)) (fun _ h => h)
  obtain ⟨c1, k1⟩ := z_arr (hgood _ (mb_in a2)) (fun _ h => h)
  obtain ⟨c2, k2⟩ := z_arr (hgood _ (mb_in a3)) (fun _ h => h)
  obtain ⟨c3, k3⟩ := z_arr (hgood _ (mb_in a4)) (fun _ h => h)
  obtain ⟨c4, k4⟩ := z_ovo ho1
  obtain ⟨c5, k5⟩ := z_ovr ho2
  obtain ⟨c6, k6⟩ := z_ovr ho3
  have hA : ∀ a : Nat, a < s.heap.size → ¬ (fun q : Nat => s.heap.size ≤ q) a := fun a h => Nat.not_le.mpr h
  have hex := fun (i : Nat) (hi : i < 18) => by
    have := z_ex i hi
    simp only [Bool.and_eq_true] at this
    exact this
  obtain ⟨adK, adV, hS, hev⟩ := vk_Sof (args := #[Value.ref b]) (s := s) (N := 18) (tm := tmS) (len := strT.map List.length) (byt := strB32) (A := fun q : Nat => s.heap.size ≤ q) z_len (fun i hi => nb_at hgv (hex i hi).1.1.1) (fun i hi => nb_at hgv (hex i hi).1.1.2) (fun i hi => nb_at hgv (hex i hi).1.2) (fun i hi => nb_at hgv (hex i hi).2) (fun i hi j hj => nb_at hgv (z_el i hi j hj)) (fun i j hi hj hij => by
    have := List.all_eq_true.mp (List.all_eq_true.mp z_ne i (List.mem_range.mpr hi)) j (List.mem_range.mpr hj)
    simp only [Bool.or_eq_true, beq_iff_eq] at this
    rcases this with (h | h) | h
    · exact absurd h hij
    · exact Or.inl (nb_at hgv h)
    · exact Or.inr (nb_at hgv h)) hA
  have hfm := z_fm
  simp only [Bool.and_eq_true, decide_eq_true_eq] at hfm
  obtain ⟨⟨f1, f2⟩, f3⟩ := hfm
  obtain ⟨fv, hfv, hfr⟩ := Cond.isRef_spec (nb_at hgv f3)
  obtain ⟨fm, rfl⟩ : ∃ r : Option Nat, fv = va_rf r := by
    cases fv <;> first | exact ⟨none, rfl⟩ | exact ⟨some _, rfl⟩ | exact absurd hfr (by simp [Value.isRef])
  have hZf := va_Zof (A := fun q : Nat => s.heap.size ≤ q) (hts _ (List.mem_of_getElem? f1)) (hts _ (List.mem_of_getElem? f2)) hfv hA
  generalize hΓ : (((dC, dI), acF c0 c1 c2 c3 c4 c5 c6, gsF adK adV b s.heap.size fm, s.heap.size) : Gm) = Γ
  generalize hE : ((adK, adV, b, L, xs) : Em) = E
  have hgB : gB Γ = s.heap.size := by rw [← hΓ]
  have hAS : ASet Γ = fun q : Nat => s.heap.size ≤ q := by unfold ASet; rw [hgB]
  have hgS : gS Γ = gsF adK adV b s.heap.size fm := by rw [← hΓ]
  have hG : GmOk Γ E := by
    subst hE
    refine ⟨⟨?_, fun x hx => ?_⟩, fun i hi => ?_, fun i hi => ?_, ?_, by rw [hgB]; exact hbl, hL, fun x h0 h1 => ?_⟩
    · rw [hgS]; rfl
    · rw [hgS, hgB]; unfold gsF; rw [if_neg (by omega), if_pos hx]
    · rw [hgS]; unfold gsF; rw [if_neg (by omega), if_neg (by omega), if_pos (by omega)]
      exact congrArg (fun q => some (adK q)) (show (-1 - (-1 - (i : Int))).toNat = i by omega)
    · rw [hgS]; unfold gsF; rw [if_neg (by omega), if_neg (by omega), if_neg (by omega), if_pos (by omega)]
      exact congrArg (fun q => some (adV q)) (show (-101 - (-101 - (i : Int))).toNat = i by omega)
    · rw [hgS]; rfl
    · rw [hgS]; unfold gsF; rw [if_neg h0]
      repeat' split
      all_goals first | exact ⟨_, rfl⟩ | omega
  have hEnv : EnvOk Γ E s s.heap := by
    refine ⟨⟨fun k q hq => ?_, fun k q hq => ?_⟩, fun e he => ?_, ?_, ?_, fun e he => ?_, ?_, fun e he hn => ?_, va_AO.of ho1, ho2, ho3⟩
    · obtain ⟨hk, rfl⟩ := clsT_at k q hq
      rw [← hΓ]
      exact hcls k hk
    · rw [← hΓ] at hq
      match k, hq with
      | 0, hq => cases hq; exact k0
      | 1, hq => cases hq; exact k1
      | 2, hq => cases hq; exact k2
      | 3, hq => cases hq; exact k3
      | 4, hq => cases hq; exact k4
      | 5, hq => cases hq; exact k5
      | 6, hq => cases hq; exact k6
      | k + 7, hq => simp [tysG] at hq
    · obtain ⟨i, hi⟩ := List.getElem?_of_mem he
      have hl := (List.getElem?_eq_some_iff.mp hi).1
      have h := List.all_eq_true.mp z_st i (List.mem_range.mpr hl)
      rw [List.getD_eq_getElem?_getD (l := stT), hi] at h
      simp only [Option.getD_some, Bool.and_eq_true, decide_eq_true_eq] at h
      obtain ⟨⟨h1, h2⟩, h3⟩ := h
      rw [hAS]
      refine va_Zof (hts _ (List.mem_of_getElem? h1)) (hts _ (List.mem_of_getElem? h2)) ?_ hA
      have h4 := nb_at hgv h3
      unfold stV
      split at h4
      · rename_i hJ
        rw [if_pos hJ]
        exact va_eqtl h4
      · rename_i hJ
        rw [if_neg hJ]
        exact va_eqt h4
    · rw [hAS, hgS]
      exact hZf
    · rw [hAS, ← hE]
      exact hS
    · rw [← hE]
      have h := List.all_eq_true.mp z_sr e he
      rw [Bool.and_eq_true, decide_eq_true_eq] at h
      have h2 := List.all_eq_true.mp sr_ok e he
      have h3 := hev e.2.2 (Nat.blt_eq.mp h.1)
      unfold tmS at h3
      rw [h.2] at h3
      exact vk_R.of (hts _ (List.mem_of_getElem? (of_decide_eq_true h2))) h3
    · rw [← hE]
      exact hX
    · have hw := List.all_eq_true.mp met_ok e he
      rw [if_neg (by simpa using hn)] at hw
      exact va_Nw.of rfl (hts _ (List.mem_of_getElem? (of_decide_eq_true hw)))
  have hX0 : HX Γ E (M0 L xs) [] s.heap := by
    refine ⟨⟨fun k q h => by simp [wrl] at h, by rw [hgB]; rfl⟩, ?_, fun q h => by cases h⟩
    subst hE
    refine ⟨rfl, fun j hj => ?_⟩
    show (if ((-2000 : Int) = -2000) then (if (j : Int) = -1 then (L : Int) else (xs ((j : Int)).toNat).toInt) else 0) = _
    rw [if_pos rfl, if_neg (by omega), Int.toNat_natCast]
  have cx : Cx p room_1 s m #[Value.ref b] meth c Γ E LAWN := ⟨hx, hb, hml, hown, hgood, hEnv, hG, by rw [hgB]; exact Nat.le_refl _, hr, hlocks, Nat.le_of_ble_eq_true rfl, Nat.le_of_ble_eq_true rfl, fun h => absurd h (by decide +kernel)⟩
  obtain ⟨n, M', sh', h1, h2, h3⟩ := hrun
  have hsw := sim_ok n LAWN 0 (entL LAWN [vR (-2000)]) [] (M0 L xs) [] (vI 1) M' sh' h1 (l := l) (e := e) (below := below) cx (Nat.zero_le 0) (Nat.zero_le 0) (by rw [Nat.sub_zero]; exact h2) (by rw [Nat.sub_zero]; exact h3)
  have hb0 : vlV Γ (vR (-2000)) = .ref b := by
    show va_rf (gS Γ (-2000)) = _
    rw [hgS]
    rfl
  have hen := LR.entry (Γ := Γ) (as := [vR (-2000)]) (z := LAWN) (Nat.le_of_ble_eq_true rfl)
  rw [List.map_cons, List.map_nil, hb0] at hen
  have hw := hsw s.heap [] _ hX0 va_S.rf hen
  rw [lg_entry_eq]
  refine W.toQ hw fun t ht => ?_
  obtain ⟨o, ht1, ht2, ⟨ho, -, -⟩, Lc, hF, hL2⟩ := ht
  refine ⟨o, ht1, ht2, ?_, ?_⟩
  · rw [ho]
    rfl
  · refine ⟨hF.1, hF.2.1, hF.2.2.weaken (fun x hx hlt => absurd hlt (Nat.not_lt.mpr ?_)) (by rw [Nat.sub_zero]; exact h2) (by rw [Nat.sub_zero]; exact h3)⟩
    have := hL2 x hx
    rw [hAS] at this
    exact this
