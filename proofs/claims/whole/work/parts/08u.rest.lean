/-! THE STEPS, part four: constants of classes, strings, the script, what is made, Math, switches, ends. -/
theorem gs_lt : (gsT.all fun e => Nat.blt e.2.2.1 stT.length) = true := by decide +kernel
theorem st_len : ∀ i : Nat, i < 18 → (strT.map List.length).getD i 0 = (strT.getD i []).length := by decide +kernel
theorem st_byt (i j : Nat) : (strB32.getD i []).getD j 0 = Int32.ofInt (strB (i : Int) (j : Int)) := by
  unfold strB32 strB
  rw [Int.toNat_natCast, Int.toNat_natCast, List.getD_eq_getElem?_getD, List.getD_eq_getElem?_getD, List.getD_eq_getElem?_getD, List.getD_eq_getElem?_getD, List.getElem?_map]
  cases strT[i]? with
  | none => simp
  | some w =>
    show ((w.map Int32.ofInt)[j]?).getD 0 = Int32.ofInt ((w[j]?).getD 0)
    rw [List.getElem?_map]
    cases w[j]? <;> rfl
theorem so_app : ∀ (a b : Sh), slotsOf (a ++ b) = slotsOf a + slotsOf b
  | [], b => by simp [slotsOf]
  | q :: a, b => by
    show q.2 + slotsOf (a ++ b) = q.2 + slotsOf a + slotsOf b
    rw [so_app a b]
    omega
theorem ShOk.app {sh : Sh} {q : Nat × Nat} (h : ShOk sh) (hq : q.2 ≤ 10000 ∧ (q.1 < 13 ∨ 20 ≤ q.1 ∧ q.1 ≤ 26)) : ShOk (sh ++ [q]) := by
  intro r hr
  rcases List.mem_append.mp hr with hr | hr
  · exact h r hr
  · rw [List.mem_singleton.mp hr]; exact hq
theorem nF_le : ∀ a : Nat, a < 13 → nF a ≤ 88 := by decide +kernel
theorem dflt_ok {a j : Nat} (ha : a < 13) (hj : j < nF a) {Γ : Gm} (h0 : gS Γ 0 = none) : defaultValue (clTy a j) = fdV Γ (ftC a j) 0 := by
  have h4 := List.all_eq_true.mp (List.all_eq_true.mp cls_four a (List.mem_range.mpr ha)) j (List.mem_range.mpr hj)
  unfold ftC
  cases hT : clTy a j <;> rw [hT] at h4 <;> first | rfl | (show Value.null = va_rf (gS Γ 0); rw [h0]; rfl) | cases h4
theorem HX.new {Γ : Gm} {E : Em} {M M' : Mem} {sh : Sh} {q : Nat × Nat} {H H1 : Heap} (h : HX Γ E M sh H) (hM : ∀ p : Int, p ≠ sh.length + 1 → M' p = M p) (hq : q.2 ≤ 10000 ∧ (q.1 < 13 ∨ 20 ≤ q.1 ∧ q.1 ≤ 26)) (he : va_at Γ.1 clsT (H.size, enV Γ q (M' (sh.length + 1))) H1) (z : H1.size = H.size + 1) (oq : ∀ a : Nat, a < H.size → H1[a]? = H[a]?) : HX Γ E M' (sh ++ [q]) H1 := by
  refine ⟨h.1.push hM he z oq, ⟨?_, fun j hj => ?_⟩, h.2.2.app hq⟩
  · rw [hM (-2000) (by omega)]; exact h.2.1.1
  · rw [hM (-2000) (by omega)]; exact h.2.1.2 j hj
theorem zeM_ne {M : Mem} {k p : Int} (h : p ≠ k) : zeM M k p = M p := by
  funext i
  unfold zeM
  rw [if_neg h]
theorem zeM_at (M : Mem) (k : Int) : zeM M k k = fun _ => 0 := by
  funext i
  unfold zeM
  rw [if_pos rfl]
theorem rt_ok : ∀ z : Nat, z < 299 → rtOk z = true := by
  intro z hz
  by_cases h : z < 298
  · exact (wd_all z h).2
  · rw [show z = 298 by omega]
    decide +kernel
section SIM
variable {p : Program} {l : Launch} {e : Env} {R : Room} {s : State} {m : MethodId} {args : Array Value} {below : List Frame} {meth : Method} {c : Code} {Q : State → Prop}
variable {Γ : Gm} {E : Em} {y n0 k0 pc : Nat} {ls : Lo} {st : List AV} {M : Mem} {sh : Sh}
theorem x_gets {x i : Nat} {v : Value} {w : AV} (cx : Cx p R s m args meth c Γ E y) (hi : i < stT.length) (hlink : Cond.fieldLink (onN (oxY y)) x (stT.getD i ("", "", "", 0)).1 (stT.getD i ("", "", "", 0)).2.1 (stT.getD i ("", "", "", 0)).2.2.1 ∈ lw_good) (hv : stV (stT.getD i ("", "", "", 0)) = vlV Γ w) (hd : decode (bcY y) pc = .ok (.getstatic x, 3)) (kk : SW p l e R s m args below meth c Γ E y n0 k0 Q (pc + 3) ls (w :: st) M sh) : SW p l e R s m args below meth c Γ E y n0 k0 Q pc ls st M sh := by
  intro H locs lsA hX hS hL
  have hm : stT.getD i ("", "", "", 0) ∈ stT := by
    rw [List.getD_eq_getElem?_getD, List.getElem?_eq_getElem hi]
    exact List.getElem_mem hi
  exact va_gets cx.1 cx.2.1 (cx.2.2.2.2.2.1.2.1 _ hm) hS cx.2.2.2.1 (cx.2.2.2.2.1 _ hlink) (fun _ h => h) hd (W.stk hv.symm (kk H locs lsA hX hS hL))
theorem x_getF {x : Nat} (cx : Cx p R s m args meth c Γ E y) (ho : oxY y = fmT.1) (hx : x = fmT.2.1) (hd : decode (bcY y) pc = .ok (.getstatic x, 3)) (kk : SW p l e R s m args below meth c Γ E y n0 k0 Q (pc + 3) ls (vR (-1000) :: st) M sh) : SW p l e R s m args below meth c Γ E y n0 k0 Q pc ls st M sh := by
  intro H locs lsA hX hS hL
  have hw := mb_in fm_ok
  rw [← ho, ← hx] at hw
  exact va_gets cx.1 cx.2.1 cx.2.2.2.2.2.1.2.2.1 hS cx.2.2.2.1 (cx.2.2.2.2.1 _ hw) (fun _ h => h) hd (kk H locs lsA hX hS hL)
theorem x_sval {k : Int} (cx : Cx p R s m args meth c Γ E y) (ho : oxY y = 13) (h40 : (shA sh k).1 = 40) (hd : decode (bcY y) pc = .ok (.getfield 9, 3)) (kk : SW p l e R s m args below meth c Γ E y n0 k0 Q (pc + 3) ls (vR (k - 100) :: st) M sh) : SW p l e R s m args below meth c Γ E y n0 k0 Q pc ls (vR k :: st) M sh := by
  intro H locs lsA hX hS hL
  obtain ⟨i, hi, rfl⟩ := sh_40 hX.2.2 h40
  have hg := cx.2.2.2.2.2.2.1.2.1 i hi
  have hg2 := cx.2.2.2.2.2.2.1.2.2.1 i hi
  have hw : Cond.fieldLink "java/lang/String" 9 "java/lang/String" "value" "[B" ∈ lw_good := by
    have := vf_ok
    rw [Bool.and_eq_true] at this
    exact mb_in this.1
  have hown := cx.2.2.2.1
  rw [ho] at hown
  refine W.stk (w := .ref (E.1 i)) ?_ ?_
  · show _ = va_rf (gS Γ _)
    rw [hg]
    rfl
  refine vk_getf cx.1 cx.2.1 (cx.2.2.2.2.2.1.2.2.2.1.1 i hi).2.2.1 hS hown (cx.2.2.2.2.1 _ hw) (fun _ h => h) hd (W.stk ?_ (kk H locs lsA hX hS hL))
  show va_rf (gS Γ _) = _
  rw [show (-1 - (i : Int) - 100) = -101 - (i : Int) by omega, hg2]
  rfl
theorem x_scod {k : Int} (cx : Cx p R s m args meth c Γ E y) (ho : oxY y = 13) (h40 : (shA sh k).1 = 40) (hd : decode (bcY y) pc = .ok (.getfield 15, 3)) (kk : SW p l e R s m args below meth c Γ E y n0 k0 Q (pc + 3) ls (vI 0 :: st) M sh) : SW p l e R s m args below meth c Γ E y n0 k0 Q pc ls (vR k :: st) M sh := by
  intro H locs lsA hX hS hL
  obtain ⟨i, hi, rfl⟩ := sh_40 hX.2.2 h40
  have hg := cx.2.2.2.2.2.2.1.2.1 i hi
  have hw : Cond.fieldLink "java/lang/String" 15 "java/lang/String" "coder" "B" ∈ lw_good := by
    have := vf_ok
    rw [Bool.and_eq_true] at this
    exact mb_in this.2
  have hown := cx.2.2.2.1
  rw [ho] at hown
  refine W.stk (w := .ref (E.1 i)) ?_ ?_
  · show _ = va_rf (gS Γ _)
    rw [hg]
    rfl
  exact vk_getf cx.1 cx.2.1 (cx.2.2.2.2.2.1.2.2.2.1.1 i hi).2.1 hS hown (cx.2.2.2.2.1 _ hw) (fun _ h => h) hd (kk H locs lsA hX hS hL)
theorem x_sald {k j : Int} (cx : Cx p R s m args meth c Γ E y) (h41 : (shA sh k).1 = 41) (h0 : 0 ≤ j) (hj : j < (shA sh k).2) (hd : decode (bcY y) pc = .ok (.baload, 1)) (kk : SW p l e R s m args below meth c Γ E y n0 k0 Q (pc + 1) ls (vI (strB (-101 - k) j) :: st) M sh) : SW p l e R s m args below meth c Γ E y n0 k0 Q pc ls (vI j :: vR k :: st) M sh := by
  intro H locs lsA hX hS hL
  obtain ⟨i, hi, rfl, hlen⟩ := sh_41 hX.2.2 h41
  have hg2 := cx.2.2.2.2.2.2.1.2.2.1 i hi
  rw [hlen, ← st_len i hi] at hj
  have hsm : (strT.map List.length).getD i 0 < 100 := by
    have : ∀ i : Nat, i < 18 → (strT.map List.length).getD i 0 < 100 := by decide +kernel
    exact this i hi
  show W p l e R s m args below meth c H locs _ _ Q (F0 m pc lsA (Value.int (Int32.ofInt j) :: va_rf (gS Γ _) :: st.map (vlV Γ)))
  rw [hg2]
  refine va_tb cx.1 cx.2.1 (cx.2.2.2.2.2.1.2.2.2.1.1 i hi).2.2.2 hS (n_in h0 hj (by omega)) rfl hd (W.stk ?_ (kk H locs lsA hX hS hL))
  rw [st_byt, n_clamp h0 (by omega), Int.toNat_of_nonneg h0]
  show Value.int _ = Value.int _
  rw [show (-101 - (-101 - (i : Int))) = (i : Int) by omega]
theorem x_slen {k : Int} (cx : Cx p R s m args meth c Γ E y) (h41 : (shA sh k).1 = 41) (hd : decode (bcY y) pc = .ok (.arraylength, 1)) (kk : SW p l e R s m args below meth c Γ E y n0 k0 Q (pc + 1) ls (vI (shA sh k).2 :: st) M sh) : SW p l e R s m args below meth c Γ E y n0 k0 Q pc ls (vR k :: st) M sh := by
  intro H locs lsA hX hS hL
  obtain ⟨i, hi, rfl, hlen⟩ := sh_41 hX.2.2 h41
  have hg2 := cx.2.2.2.2.2.2.1.2.2.1 i hi
  show W p l e R s m args below meth c H locs _ _ Q (F0 m pc lsA (va_rf (gS Γ _) :: st.map (vlV Γ)))
  rw [hg2]
  refine va_tlen cx.1 cx.2.1 (cx.2.2.2.2.2.1.2.2.2.1.1 i hi).2.2.2 hS rfl hd (W.stk ?_ (kk H locs lsA hX hS hL))
  show Value.int _ = Value.int _
  rw [hlen, st_len i hi, Int32.ofInt_eq_ofNat]
theorem x_plen (cx : Cx p R s m args meth c Γ E y) (hd : decode (bcY y) pc = .ok (.arraylength, 1)) (kk : SW p l e R s m args below meth c Γ E y n0 k0 Q (pc + 1) ls (vI (M (-2000) (-1)) :: st) M sh) : SW p l e R s m args below meth c Γ E y n0 k0 Q pc ls (vR (-2000) :: st) M sh := by
  intro H locs lsA hX hS hL
  have hg := cx.2.2.2.2.2.2.1.2.2.2
  show W p l e R s m args below meth c H locs _ _ Q (F0 m pc lsA (va_rf (gS Γ (-2000)) :: st.map (vlV Γ)))
  rw [hg.1]
  refine va_slen cx.1 cx.2.1 cx.2.2.2.2.2.1.2.2.2.2.2.1 (Nat.lt_of_lt_of_le hg.2.1 cx.2.2.2.2.2.2.2.1) (Nat.not_le.mpr hg.2.1) hS hd (W.stk ?_ (kk H locs lsA hX hS hL))
  show Value.int _ = Value.int _
  rw [hX.2.1.1, Int32.ofInt_eq_ofNat]
theorem x_pald {j : Int} (cx : Cx p R s m args meth c Γ E y) (h0 : 0 ≤ j) (hj : j < M (-2000) (-1)) (hd : decode (bcY y) pc = .ok (.iaload, 1)) (kk : SW p l e R s m args below meth c Γ E y n0 k0 Q (pc + 1) ls (vI (M (-2000) j) :: st) M sh) : SW p l e R s m args below meth c Γ E y n0 k0 Q pc ls (vI j :: vR (-2000) :: st) M sh := by
  intro H locs lsA hX hS hL
  have hg := cx.2.2.2.2.2.2.1.2.2.2
  rw [hX.2.1.1] at hj
  show W p l e R s m args below meth c H locs _ _ Q (F0 m pc lsA (Value.int (Int32.ofInt j) :: va_rf (gS Γ (-2000)) :: st.map (vlV Γ)))
  rw [hg.1]
  have hL3 := hg.2.2.1
  refine va_sld cx.1 cx.2.1 cx.2.2.2.2.2.1.2.2.2.2.2.1 (Nat.lt_of_lt_of_le hg.2.1 cx.2.2.2.2.2.2.2.1) (Nat.not_le.mpr hg.2.1) hS (n_in h0 hj (by omega)) hd (W.stk ?_ (kk H locs lsA hX hS hL))
  show Value.int _ = Value.int _
  have := hX.2.1.2 j.toNat (by omega)
  rw [Int.toNat_of_nonneg h0] at this
  rw [this, Int32.ofInt_toInt, n_clamp h0 (by omega)]
/-- what is made -/
theorem x_new {x a : Nat} (cx : Cx p R s m args meth c Γ E y) (ha : a < 13) (hlink : Cond.classLink (onN (oxY y)) x (onN a) ∈ lw_good) (hn0 : n0 ≤ sh.length) (hk0 : k0 ≤ slotsOf sh) (hc1 : (sh ++ [(a, nF a)]).length - n0 ≤ R.cells) (hc2 : slotsOf (sh ++ [(a, nF a)]) - k0 ≤ R.slots) (hd : decode (bcY y) pc = .ok (.new x, 3)) (kk : SW p l e R s m args below meth c Γ E y n0 k0 Q (pc + 3) ls (vR (sh.length + 1) :: st) (zeM M (sh.length + 1)) (sh ++ [(a, nF a)])) : SW p l e R s m args below meth c Γ E y n0 k0 Q pc ls st M sh := by
  intro H locs lsA hX hS hL
  have hKn := cx.2.2.2.2.2.1.1.1 a _ (cls_get a ha)
  have hio := List.all_eq_true.mp in_ok a (List.mem_range.mpr ha)
  rw [Bool.and_eq_true] at hio
  rw [List.length_append] at hc1
  rw [so_app] at hc2
  simp only [List.length_singleton, slotsOf] at hc1 hc2
  refine W.newcK cx.1 cx.2.1 cx.2.2.2.1 (cx.2.2.2.2.1 _ hlink) (cx.2.2.2.2.1 _ (mb_in hio.1)) (cx.2.2.2.2.1 _ (mb_in hio.2)) rfl hd (by omega) (by omega) hKn.2.1 rfl fun H1 kC hkC e1 z1 o1 => ?_
  have hsz : (sh ++ [(a, nF a)]).length - n0 = sh.length - n0 + 1 := by rw [List.length_append]; simp only [List.length_singleton]; omega
  have hss : slotsOf (sh ++ [(a, nF a)]) - k0 = slotsOf sh - k0 + nF a := by rw [so_app]; simp only [slotsOf]; omega
  have hX1 : HX Γ E (zeM M (sh.length + 1)) (sh ++ [(a, nF a)]) H1 := by
    refine hX.new (fun p' hp => zeM_ne hp) ⟨by have := nF_le a ha; omega, Or.inl ha⟩ ?_ z1 o1
    rw [en_o ha, zeM_at]
    refine ⟨_, cls_get a ha, (u_born (clTy a) cx.2.2.2.2.1 (cls_ws ha) hKn hkC e1 (cls_ty a ha)).to (fun j hj => ?_)⟩
    show defaultValue (clTy a j) = vp_V (fsV Γ a fun _ => 0) j
    unfold vp_V
    rw [List.getD_eq_getElem?_getD, fsV_get hj]
    exact dflt_ok ha hj (gS_0 cx.2.2.2.2.2.2.1)
  have h9 := kk H1 locs lsA hX1 ⟨Nat.le_trans hS.1 (by omega), fun x h1 h2 => (o1 x (Nat.lt_of_lt_of_le h1 hS.1)).trans (hS.2.1 x h1 h2), hS.2.2⟩ hL
  rw [hsz, hss] at h9
  refine W.stk ?_ h9
  show va_rf (gS Γ _) = _
  rw [gS_pos cx.2.2.2.2.2.2.1 (by omega), hX.1.2]
  show Value.ref _ = Value.ref _
  rw [show ((sh.length : Int) + 1 - 1).toNat = sh.length by omega]
theorem x_newK {n : Int} {t : ArrayType} {ca : Nat} {ty : FieldType} (cx : Cx p R s m args meth c Γ E y) (hty : newarray.typeOf t = ty) (ht : (tysG Γ)[ca]? = some (Γ.2.1 (20 + ca), ty)) (hca : ca ≤ 6) (hcb : componentBytes ty ≤ 8) (harr : Cond.arrayClass ty ∈ lw_good)
    (hre : ∀ cA : ClassId, va_RA s cA ty → s.vm.findClass ("[" ++ ty.toString) = some cA) (hcell : vp_cell (Γ.2.1 (20 + ca)) (arV Γ (20 + ca, n.toNat) fun _ => 0) = arrV (Γ.2.1 (20 + ca)) n.toNat (fun _ => defaultValue ty))
    (h0 : 0 ≤ n) (hn : n ≤ 10000) (hn0 : n0 ≤ sh.length) (hk0 : k0 ≤ slotsOf sh) (hc1 : (sh ++ [(20 + ca, n.toNat)]).length - n0 ≤ R.cells) (hc2 : slotsOf (sh ++ [(20 + ca, n.toNat)]) - k0 ≤ R.slots) (hd : decode (bcY y) pc = .ok (.newarray t, 2)) (kk : SW p l e R s m args below meth c Γ E y n0 k0 Q (pc + 2) ls (vR (sh.length + 1) :: st) (zeM M (sh.length + 1)) (sh ++ [(20 + ca, n.toNat)])) : SW p l e R s m args below meth c Γ E y n0 k0 Q pc ls (vI n :: st) M sh := by
  intro H locs lsA hX hS hL
  subst hty
  rw [List.length_append] at hc1
  rw [so_app] at hc2
  simp only [List.length_singleton, slotsOf] at hc1 hc2
  have hcl := n_clamp h0 (by omega)
  refine va_newaK cx.1 cx.2.1 (cx.2.2.2.2.1 _ harr) rfl hd rfl (n_nneg h0 (by omega)) hcl (Nat.le_trans (Nat.mul_le_mul (show n.toNat ≤ 10000 by omega) hcb) (by omega)) (by omega) (by omega) rfl fun H1 cA e1 z1 o1 hAr hNm => ?_
  have hcA : cA = Γ.2.1 (20 + ca) := Option.some.inj (hNm.symm.trans (hre _ (cx.2.2.2.2.2.1.1.2 ca _ ht).2))
  subst hcA
  have hsz : (sh ++ [(20 + ca, n.toNat)]).length - n0 = sh.length - n0 + 1 := by rw [List.length_append]; simp only [List.length_singleton]; omega
  have hss : slotsOf (sh ++ [(20 + ca, n.toNat)]) - k0 = slotsOf sh - k0 + n.toNat := by rw [so_app]; simp only [slotsOf]; omega
  have hX1 : HX Γ E (zeM M (sh.length + 1)) (sh ++ [(20 + ca, n.toNat)]) H1 := by
    refine hX.new (fun p' hp => zeM_ne hp) ⟨by show n.toNat ≤ 10000; omega, Or.inr ⟨by show 20 ≤ 20 + ca; omega, by show 20 + ca ≤ 26; omega⟩⟩ ?_ z1 o1
    have hen : enV Γ (20 + ca, n.toNat) (zeM M (sh.length + 1) (sh.length + 1)) = .inl (Γ.2.1 (20 + ca), arV Γ (20 + ca, n.toNat) fun _ => 0) := by
      rw [zeM_at]
      exact if_neg (by show ¬ (20 + ca < 13); omega)
    rw [hen]
    show H1[H.size]? = some (vp_cell _ _)
    rw [hcell]
    exact e1
  have h9 := kk H1 locs lsA hX1 ⟨Nat.le_trans hS.1 (by omega), fun x h1 h2 => (o1 x (Nat.lt_of_lt_of_le h1 hS.1)).trans (hS.2.1 x h1 h2), hS.2.2⟩ hL
  rw [hsz, hss] at h9
  refine W.stk ?_ h9
  show va_rf (gS Γ _) = _
  rw [gS_pos cx.2.2.2.2.2.2.1 (by omega), hX.1.2]
  show Value.ref _ = Value.ref _
  rw [show ((sh.length : Int) + 1 - 1).toNat = sh.length by omega]
theorem x_newarray {n a : Int} {t : ArrayType} (cx : Cx p R s m args meth c Γ E y) (ha : (match t with
    | .int => a == 20
    | .byte => a == 21
    | .boolean => a == 22
    | .long => a == 23
    | _ => false) = true)
    (h0 : 0 ≤ n) (hn : n ≤ 10000) (hn0 : n0 ≤ sh.length) (hk0 : k0 ≤ slotsOf sh) (hc1 : (sh ++ [(a.toNat, n.toNat)]).length - n0 ≤ R.cells) (hc2 : slotsOf (sh ++ [(a.toNat, n.toNat)]) - k0 ≤ R.slots) (hd : decode (bcY y) pc = .ok (.newarray t, 2)) (kk : SW p l e R s m args below meth c Γ E y n0 k0 Q (pc + 2) ls (vR (sh.length + 1) :: st) (zeM M (sh.length + 1)) (sh ++ [(a.toNat, n.toNat)])) : SW p l e R s m args below meth c Γ E y n0 k0 Q pc ls (vI n :: st) M sh := by
  have hA := arr_ok
  simp only [Bool.and_eq_true] at hA
  obtain ⟨⟨⟨hA1, hA2⟩, hA3⟩, hA4⟩ := hA
  cases t with
  | int =>
    have ha : a = 20 := beq_iff_eq.mp ha
    subst ha
    exact x_newK (ca := 0) (t := .int) (ty := .int) cx rfl rfl (by decide) (by decide) (mb_in hA1) (fun _ h => h) rfl h0 hn hn0 hk0 hc1 hc2 hd kk
  | byte =>
    have ha : a = 21 := beq_iff_eq.mp ha
    subst ha
    exact x_newK (ca := 1) (t := .byte) (ty := .byte) cx rfl rfl (by decide) (by decide) (mb_in hA2) (fun _ h => h) rfl h0 hn hn0 hk0 hc1 hc2 hd kk
  | boolean =>
    have ha : a = 22 := beq_iff_eq.mp ha
    subst ha
    exact x_newK (ca := 2) (t := .boolean) (ty := .boolean) cx rfl rfl (by decide) (by decide) (mb_in hA3) (fun _ h => h) rfl h0 hn hn0 hk0 hc1 hc2 hd kk
  | long =>
    have ha : a = 23 := beq_iff_eq.mp ha
    subst ha
    exact x_newK (ca := 3) (t := .long) (ty := .long) cx rfl rfl (by decide) (by decide) (mb_in hA4) (fun _ h => h) rfl h0 hn hn0 hk0 hc1 hc2 hd kk
  | _ => exact absurd ha Bool.false_ne_true
theorem x_anew {n : Int} {x : Nat} (cx : Cx p R s m args meth c Γ E y) (hlink : Cond.classLink (onN (oxY y)) x RX5 ∈ lw_good)
    (h0 : 0 ≤ n) (hn : n ≤ 10000) (hn0 : n0 ≤ sh.length) (hk0 : k0 ≤ slotsOf sh) (hc1 : (sh ++ [(24, n.toNat)]).length - n0 ≤ R.cells) (hc2 : slotsOf (sh ++ [(24, n.toNat)]) - k0 ≤ R.slots) (hd : decode (bcY y) pc = .ok (.anewarray x, 3)) (kk : SW p l e R s m args below meth c Γ E y n0 k0 Q (pc + 3) ls (vR (sh.length + 1) :: st) (zeM M (sh.length + 1)) (sh ++ [(24, n.toNat)])) : SW p l e R s m args below meth c Γ E y n0 k0 Q pc ls (vI n :: st) M sh := by
  intro H locs lsA hX hS hL
  rw [List.length_append] at hc1
  rw [so_app] at hc2
  simp only [List.length_singleton, slotsOf] at hc1 hc2
  have hcl := n_clamp h0 (by omega)
  refine W.anew cx.1 cx.2.1 cx.2.2.2.1 (cx.2.2.2.2.1 _ hlink) (va_AO.use cx.2.2.2.2.2.1.2.2.2.2.2.2.2.1) rfl hd rfl (n_nneg h0 (by omega)) (by rw [hcl]; omega) (by omega) (by rw [hcl]; omega) fun cA kA comp f1 f2 f3 f4 => ?_
  rw [hcl]
  generalize hH1 : H.push ({ cls := cA, slots := Array.replicate n.toNat .null, vm := .none } : Cell) = H1
  have z1 : H1.size = H.size + 1 := by rw [← hH1, Array.size_push]
  have e1 : H1[H.size]? = some (arrV cA n.toNat (fun _ => .null)) := by rw [← hH1, Array.getElem?_push_size, ← arrV_new]
  have o1 : ∀ q : Nat, q < H.size → H1[q]? = H[q]? := fun q hq => by rw [← hH1, Array.getElem?_push, if_neg (Nat.ne_of_lt hq)]
  obtain ⟨_, _, _, _, _, r4⟩ := (cx.2.2.2.2.2.1.1.2 4 _ rfl).2
  have hcA : cA = Γ.2.1 24 := Option.some.inj (f1.symm.trans r4)
  subst hcA
  have hsz : (sh ++ [(24, n.toNat)]).length - n0 = sh.length - n0 + 1 := by rw [List.length_append]; simp only [List.length_singleton]; omega
  have hss : slotsOf (sh ++ [(24, n.toNat)]) - k0 = slotsOf sh - k0 + n.toNat := by rw [so_app]; simp only [slotsOf]; omega
  have hX1 : HX Γ E (zeM M (sh.length + 1)) (sh ++ [(24, n.toNat)]) H1 := by
    refine hX.new (fun p' hp => zeM_ne hp) ⟨by show n.toNat ≤ 10000; omega, Or.inr ⟨by show 20 ≤ 24; omega, by show 24 ≤ 26; omega⟩⟩ ?_ z1 o1
    rw [en_r rfl, zeM_at]
    show H1[H.size]? = some (vp_cell _ _)
    rw [e1, vp_cell_q]
    congr 2
    funext j
    rw [gS_0 cx.2.2.2.2.2.2.1]
    rfl
  have h9 := kk H1 locs lsA hX1 ⟨Nat.le_trans hS.1 (by omega), fun x h1 h2 => (o1 x (Nat.lt_of_lt_of_le h1 hS.1)).trans (hS.2.1 x h1 h2), hS.2.2⟩ hL
  rw [hsz, hss] at h9
  refine W.stk ?_ h9
  show va_rf (gS Γ _) = _
  rw [gS_pos cx.2.2.2.2.2.2.1 (by omega), hX.1.2]
  show Value.ref _ = Value.ref _
  rw [show ((sh.length : Int) + 1 - 1).toNat = sh.length by omega]
/-- Object's own beginning, Math, copies -/
theorem x_obj {r : Int} {x : Nat} (cx : Cx p R s m args meth c Γ E y) (hr : 0 < r) (hw : wsum st ≤ 8) (hlink : Cond.methodLink (onN (oxY y)) x Lib.objectInit ∈ lw_good) (hro : roomO y = true) (hd : decode (bcY y) pc = .ok (.invokespecial x, 3)) (kk : SW p l e R s m args below meth c Γ E y n0 k0 Q (pc + 3) ls st M sh) : SW p l e R s m args below meth c Γ E y n0 k0 Q pc ls (vR r :: st) M sh := by
  intro H locs lsA hX hS hL
  have ho := oi_ok
  rw [Bool.and_eq_true] at ho
  unfold roomO at hro
  rw [Bool.and_eq_true, Nat.ble_eq, Nat.ble_eq] at hro
  have hf := cx.2.2.2.2.2.2.2.2.2.2
  refine W.stk (rf_pos cx hr).symm ?_
  exact W.objInit cx.1 cx.2.1 cx.2.2.2.1 (cx.2.2.2.2.1 _ hlink) (cx.2.2.2.2.1 _ (mb_in ho.1)) (cx.2.2.2.2.1 _ (mb_in ho.2)) (g := F0 m pc lsA (Value.ref (gB Γ + (r - 1).toNat) :: st.map (vlV Γ))) rfl (by show lsA.size = _; rw [hL.1.1, cx.2.2.1]) rfl hd (by omega) (by rw [wsum_eq]; show 2 * 0 + _ + 12 ≤ _; omega) (kk H locs lsA hX hS hL)
theorem x_min {v1 v2 : Int} {x : Nat} (cx : Cx p R s m args meth c Γ E y) (h1 : inR v2) (h2 : inR v1) (hw : wsum st ≤ 8) (hlink : Cond.methodLink (onN (oxY y)) x Lib.Math.min.name ∈ lw_good) (hro : roomO y = true) (hn0 : sh.length - n0 ≤ R.cells) (hk0 : slotsOf sh - k0 ≤ R.slots) (hd : decode (bcY y) pc = .ok (.invokestatic x, 3)) (kk : SW p l e R s m args below meth c Γ E y n0 k0 Q (pc + 3) ls (vI (min v2 v1) :: st) M sh) : SW p l e R s m args below meth c Γ E y n0 k0 Q pc ls (vI v1 :: vI v2 :: st) M sh := by
  intro H locs lsA hX hS hL
  have ho := min_ok
  simp only [Bool.and_eq_true] at ho
  unfold roomO at hro
  rw [Bool.and_eq_true, Nat.ble_eq, Nat.ble_eq] at hro
  have hf := cx.2.2.2.2.2.2.2.2.2.2
  exact va_mmin cx.1 cx.2.1 (by rw [hL.1.1, cx.2.2.1]) cx.2.2.2.1 (cx.2.2.2.2.1 _ hlink) (cx.2.2.2.2.1 _ (mb_in ho.1.1)) (cx.2.2.2.2.1 _ (mb_in ho.1.2)) (cx.2.2.2.2.1 _ (mb_in ho.2)) (by omega) (by rw [wsum_eq]; omega) hn0 hk0 hd (W.stk (congrArg Value.int (n_min h1 h2).symm) (kk H locs lsA hX hS hL))
theorem x_max {v1 v2 : Int} {x : Nat} (cx : Cx p R s m args meth c Γ E y) (h1 : inR v2) (h2 : inR v1) (hw : wsum st ≤ 8) (hlink : Cond.methodLink (onN (oxY y)) x Lib.Math.max.name ∈ lw_good) (hro : roomO y = true) (hn0 : sh.length - n0 ≤ R.cells) (hk0 : slotsOf sh - k0 ≤ R.slots) (hd : decode (bcY y) pc = .ok (.invokestatic x, 3)) (kk : SW p l e R s m args below meth c Γ E y n0 k0 Q (pc + 3) ls (vI (max v2 v1) :: st) M sh) : SW p l e R s m args below meth c Γ E y n0 k0 Q pc ls (vI v1 :: vI v2 :: st) M sh := by
  intro H locs lsA hX hS hL
  have ho := max_ok
  simp only [Bool.and_eq_true] at ho
  unfold roomO at hro
  rw [Bool.and_eq_true, Nat.ble_eq, Nat.ble_eq] at hro
  have hf := cx.2.2.2.2.2.2.2.2.2.2
  exact va_mmax cx.1 cx.2.1 (by rw [hL.1.1, cx.2.2.1]) cx.2.2.2.1 (cx.2.2.2.2.1 _ hlink) (cx.2.2.2.2.1 _ (mb_in ho.1.1)) (cx.2.2.2.2.1 _ (mb_in ho.1.2)) (cx.2.2.2.2.1 _ (mb_in ho.2)) (by omega) (by rw [wsum_eq]; omega) hn0 hk0 hd (W.stk (congrArg Value.int (n_max h1 h2).symm) (kk H locs lsA hX hS hL))
theorem x_abs {v1 : Int} {x : Nat} (cx : Cx p R s m args meth c Γ E y) (h1 : inR v1) (hw : wsum st ≤ 8) (hlink : Cond.methodLink (onN (oxY y)) x Lib.Math.abs.name ∈ lw_good) (hro : roomO y = true) (hn0 : sh.length - n0 ≤ R.cells) (hk0 : slotsOf sh - k0 ≤ R.slots) (hd : decode (bcY y) pc = .ok (.invokestatic x, 3)) (kk : SW p l e R s m args below meth c Γ E y n0 k0 Q (pc + 3) ls (vI (if v1 < 0 then -v1 else v1) :: st) M sh) : SW p l e R s m args below meth c Γ E y n0 k0 Q pc ls (vI v1 :: st) M sh := by
  intro H locs lsA hX hS hL
  have ho := abs_ok
  simp only [Bool.and_eq_true] at ho
  unfold roomO at hro
  rw [Bool.and_eq_true, Nat.ble_eq, Nat.ble_eq] at hro
  have hf := cx.2.2.2.2.2.2.2.2.2.2
  exact va_mabs cx.1 cx.2.1 (by rw [hL.1.1, cx.2.2.1]) cx.2.2.2.1 (cx.2.2.2.2.1 _ hlink) (cx.2.2.2.2.1 _ (mb_in ho.1.1)) (cx.2.2.2.2.1 _ (mb_in ho.1.2)) (cx.2.2.2.2.1 _ (mb_in ho.2)) (by omega) (by rw [wsum_eq]; omega) hn0 hk0 hd (W.stk (congrArg Value.int (n_abs h1).symm) (kk H locs lsA hX hS hL))
/-- switches -/
theorem x_tsw {v : Int} {d lo hi : Int} {offs : Array Int} {len : Nat} {b : Int} (cx : Cx p R s m args meth c Γ E y) (hr : inR v) (hb : b = (pc : Int) + d) (h0 : 0 ≤ b) (hs : sws y pc = offs.toList.zipIdx.map (fun q => (lo + (q.2 : Int), ((pc : Int) + q.1).toNat))) (ho : offs.toList.all (fun o => decide (0 ≤ (pc : Int) + o)) = true) (hn : hi - lo + 1 = (offs.size : Int)) (hd : decode (bcY y) pc = .ok (.tableswitch d lo hi offs, len)) (kk : SW p l e R s m args below meth c Γ E y n0 k0 Q (swL v b.toNat (sws y pc)) ls st M sh) : SW p l e R s m args below meth c Γ E y n0 k0 Q pc ls (vI v :: st) M sh := by
  intro H locs lsA hX hS hL
  have hv := n_toI hr.1 hr.2
  have hsz : offs.toList.length = offs.size := Array.length_toList
  by_cases hin : lo ≤ v ∧ v ≤ hi
  · obtain ⟨o, e1, e2⟩ := tb_in v lo pc b.toNat offs.toList 0 (by omega) (by rw [hsz]; omega)
    rw [hs, e2] at kk
    have hp : 0 ≤ (pc : Int) + o := by
      have := List.all_eq_true.mp ho o (List.mem_of_getElem? e1)
      exact of_decide_eq_true this
    refine lv_tableIn cx.1 cx.2.1 hd (by rw [hv]; omega) (by rw [hv]; omega) (off := o) ?_ (by omega) (kk H locs lsA hX hS hL)
    rw [hv, ← Array.getElem?_toList, ← e1]
    congr 1
    simp
  · have e2 := tb_out v lo pc b.toNat offs.toList 0 (by rw [hsz]; omega)
    rw [hs, e2] at kk
    exact lv_tableOut cx.1 cx.2.1 hd (by rw [hv]; omega) (by omega) (kk H locs lsA hX hS hL)
theorem x_lsw {v : Int} {d : Int} {ps : Array (Int × Int)} {len : Nat} {b : Int} (cx : Cx p R s m args meth c Γ E y) (hr : inR v) (hb : b = (pc : Int) + d) (h0 : 0 ≤ b) (hs : sws y pc = ps.toList.map (fun q => (q.1, ((pc : Int) + q.2).toNat))) (ho : ps.toList.all (fun o => decide (0 ≤ (pc : Int) + o.2)) = true) (hp : (ps.toList.zip (ps.toList.drop 1)).all (fun q => decide (q.1.1 < q.2.1)) = true) (hd : decode (bcY y) pc = .ok (.lookupswitch d ps, len)) (kk : SW p l e R s m args below meth c Γ E y n0 k0 Q (swL v b.toNat (sws y pc)) ls st M sh) : SW p l e R s m args below meth c Γ E y n0 k0 Q pc ls (vI v :: st) M sh := by
  intro H locs lsA hX hS hL
  have hv := n_toI hr.1 hr.2
  have e2 := lk_off v pc d ps.toList (fun o h => of_decide_eq_true (List.all_eq_true.mp ho o h)) (by omega)
  rw [hs, hb] at kk
  exact lv_lookup cx.1 cx.2.1 hd (by simpa using hp) rfl (by rw [hv]; exact e2) (kk H locs lsA hX hS hL)
/-- the ends -/
def QcE (Γ : Gm) (E : Em) (z : Nat) (r : AV) (M : Mem) (sh : Sh) : Array Value → State → Outcome → State → Prop := fun _ s0 o t => o = .returned (if rtK z = 0 then none else some (vlV Γ r)) ∧ HX Γ E M sh t.heap ∧ va_F (ASet Γ) s0 t
theorem x_vret (cx : Cx p R s m args meth c Γ E y) (hy : y < 299) (hk : rtK y = 0) {r : AV} (hd : decode (bcY y) pc = .ok (.return_, 1)) : SW p l e R s m args below meth c Γ E y n0 k0 (MQ below (QcE Γ E y r M sh) args s (sh.length - n0) (slotsOf sh - k0) (ASet Γ)) pc ls [] M sh := by
  intro H locs lsA hX hS hL
  have hrt := rt_ok y hy
  have hr : meth.sig.returnType = none := by
    rw [cx.2.2.2.2.2.2.2.2.1]
    unfold rtOk at hrt
    rw [hk] at hrt
    split at hrt <;> first | assumption | cases hrt
  exact W.vret cx.1 cx.2.1 hr (fun t ht hw => ⟨by rw [if_pos hk], by rw [ht]; exact hX, hS.F ht⟩) hS.2.2 hd cx.2.2.2.2.2.2.2.2.2.1
theorem x_iret (cx : Cx p R s m args meth c Γ E y) (hy : y < 299) {v a : Int} (ha : (rtK y : Int) = a) (hv : a = 1 ∨ (a = 2 ∧ 0 ≤ v ∧ v ≤ 1) ∨ (a = 5 ∧ -128 ≤ v ∧ v < 128) ∨ (a = 6 ∧ 0 ≤ v ∧ v < 65536)) (hd : decode (bcY y) pc = .ok (.ireturn, 1)) : SW p l e R s m args below meth c Γ E y n0 k0 (MQ below (QcE Γ E y (vI v) M sh) args s (sh.length - n0) (slotsOf sh - k0) (ASet Γ)) pc ls [vI v] M sh := by
  intro H locs lsA hX hS hL
  have hrt := rt_ok y hy
  have hr0 := cx.2.2.2.2.2.2.2.2.1
  have hlk := cx.2.2.2.2.2.2.2.2.2.1
  have fin : ∀ ty : FieldType, rtY y = some ty → narrow ty (.int (Int32.ofInt v)) = .int (Int32.ofInt v) → W p l e R s m args below meth c H locs (sh.length - n0) (slotsOf sh - k0) (MQ below (QcE Γ E y (vI v) M sh) args s (sh.length - n0) (slotsOf sh - k0) (ASet Γ)) (F0 m pc lsA [.int (Int32.ofInt v)]) := by
    intro ty h1 h2
    exact W.zret cx.1 cx.2.1 (by rw [hr0, h1]) h2 (fun t ht hw => ⟨by rw [if_neg (by omega)]; rfl, by rw [ht]; exact hX, hS.F ht⟩) hS.2.2 hd hlk
  unfold rtOk at hrt
  split at hrt
  · simp only [beq_iff_eq] at hrt; omega
  · exact fin _ (by assumption) rfl
  · simp only [beq_iff_eq] at hrt
    refine fin _ (by assumption) ?_
    rcases (show v = 0 ∨ v = 1 by omega) with rfl | rfl <;> rfl
  · simp only [beq_iff_eq] at hrt; omega
  · simp only [beq_iff_eq] at hrt; omega
  · simp only [beq_iff_eq] at hrt; omega
  · simp only [beq_iff_eq] at hrt
    refine fin _ (by assumption) ?_
    have h9 := n_narB (v := v) (by omega) (by omega)
    rw [vp_nar_byte] at h9
    show Value.int (Int32.ofInt v).toInt8.toInt32 = _
    rw [h9]
  · simp only [beq_iff_eq] at hrt
    refine fin _ (by assumption) ?_
    have := (pk_charN (q := v.toNat) (by omega)).1
    rw [n_nI (by omega : 0 ≤ v)]
    exact this
  · cases hrt
theorem x_lret (cx : Cx p R s m args meth c Γ E y) (hy : y < 299) (hk : rtK y = 3) {v : Int} (hd : decode (bcY y) pc = .ok (.lreturn, 1)) : SW p l e R s m args below meth c Γ E y n0 k0 (MQ below (QcE Γ E y (vL v) M sh) args s (sh.length - n0) (slotsOf sh - k0) (ASet Γ)) pc ls [vL v] M sh := by
  intro H locs lsA hX hS hL
  have hrt := rt_ok y hy
  have hr : meth.sig.returnType = some .long := by
    rw [cx.2.2.2.2.2.2.2.2.1]
    unfold rtOk at hrt
    rw [hk] at hrt
    split at hrt <;> first | assumption | cases hrt
  exact W.lret cx.1 cx.2.1 hr (fun t ht hw => ⟨by rw [if_neg (by omega)]; rfl, by rw [ht]; exact hX, hS.F ht⟩) hS.2.2 hd cx.2.2.2.2.2.2.2.2.2.1
theorem x_aret (cx : Cx p R s m args meth c Γ E y) (hy : y < 299) (hk : rtK y = 4) {v : Int} (hd : decode (bcY y) pc = .ok (.areturn, 1)) : SW p l e R s m args below meth c Γ E y n0 k0 (MQ below (QcE Γ E y (vR v) M sh) args s (sh.length - n0) (slotsOf sh - k0) (ASet Γ)) pc ls [vR v] M sh := by
  intro H locs lsA hX hS hL
  have hrt := rt_ok y hy
  have hr0 := cx.2.2.2.2.2.2.2.2.1
  have hr : ∃ rt, rtY y = some rt ∧ ((∃ n, rt = .object n) ∨ ∃ t, rt = .array t) := by
    unfold rtOk at hrt
    rw [hk] at hrt
    split at hrt <;> first | exact ⟨_, by assumption, Or.inl ⟨_, rfl⟩⟩ | exact ⟨_, by assumption, Or.inr ⟨_, rfl⟩⟩ | cases hrt
  obtain ⟨rt, h1, h2⟩ := hr
  exact W.aret cx.1 cx.2.1 (by rw [hr0, h1]) h2 (va_rf_or _) (fun t ht hw => ⟨by rw [if_neg (by omega)]; rfl, by rw [ht]; exact hX, hS.F ht⟩) hS.2.2 hd cx.2.2.2.2.2.2.2.2.2.1
end SIM
