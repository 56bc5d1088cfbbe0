/-! THE STEPS, part five: a copy between rows of ints, a row of rows. -/
def cpM (M : Mem) (ks kd sp dp n : Int) : Mem := fun p j => if p = kd ∧ dp ≤ j ∧ j < dp + n then M ks (sp + (j - dp)) else M p j
def mnM (M : Mem) (L n : Int) : Mem := fun p j => if p = L + 1 then (if 0 ≤ j ∧ j < n then L + 2 + j else 0) else if L + 1 < p ∧ p ≤ L + 1 + n then 0 else M p j
theorem mn_ad {B L j S : Nat} (h : S = B + L) : B + ((L : Int) + 2 + (j : Int) - 1).toNat = S + 1 + j := by omega
theorem outer_eq (c : ClassId) (N h0 : Nat) : ∀ i, Jvm.Free.Multi.outerC c N h0 i = arrV c N (fun j => if j < i then .ref (h0 + 1 + j) else .null)
  | 0 => by
    show ({ cls := c, slots := Array.replicate N .null, vm := .none } : Cell) = _
    rw [arrV_new]
    congr 1
  | i + 1 => by
    show (Jvm.Free.Multi.outerC c N h0 i).setSlot i (.ref (h0 + 1 + i)) = _
    rw [outer_eq c N h0 i, arrV_store]
    congr 1
    funext j
    unfold updV
    by_cases h1 : j = i
    · subst h1
      rw [if_pos rfl, if_pos (by omega)]
    · rw [if_neg h1]
      by_cases h2 : j < i
      · show (if j < i then _ else _) = _
        rw [if_pos h2, if_pos (by omega)]
      · show (if j < i then _ else _) = _
        rw [if_neg h2, if_neg (by omega)]
section SIM
variable {p : Program} {l : Launch} {e : Env} {R : Room} {s : State} {m : MethodId} {args : Array Value} {below : List Frame} {meth : Method} {c : Code} {Q : State → Prop}
variable {Γ : Gm} {E : Em} {y n0 k0 pc : Nat} {ls : Lo} {st : List AV} {M : Mem} {sh : Sh}
theorem x_copy {ks kd sp dp n : Int} {x : Nat} (cx : Cx p R s m args meth c Γ E y) (hs : (shA sh ks).1 = 20) (ht : (shA sh kd).1 = 20) (h0 : 0 ≤ n) (h1 : 0 ≤ sp) (h2 : 0 ≤ dp) (h3 : sp + n ≤ (shA sh ks).2) (h4 : dp + n ≤ (shA sh kd).2) (hw : wsum st ≤ 8) (hlink : Cond.methodLink (onN (oxY y)) x arraycopyName ∈ lw_good) (hro : roomO y = true) (hd : decode (bcY y) pc = .ok (.invokestatic x, 3)) (kk : SW p l e R s m args below meth c Γ E y n0 k0 Q (pc + 3) ls st (cpM M ks kd sp dp n) sh) : SW p l e R s m args below meth c Γ E y n0 k0 Q pc ls (vI n :: vI dp :: vR kd :: vI sp :: vR ks :: st) M sh := by
  intro H locs lsA hX hS hL
  have hks := sh_pos hs (by decide) (by decide) (by decide)
  have hkd := sh_pos ht (by decide) (by decide) (by decide)
  have l1 := sh_len hX.2.2 hks
  have l2 := sh_len hX.2.2 hkd
  show W p l e R s m args below meth c H locs _ _ Q (F0 m pc lsA (Value.int (Int32.ofInt n) :: Value.int (Int32.ofInt dp) :: vlV Γ (vR kd) :: Value.int (Int32.ofInt sp) :: vlV Γ (vR ks) :: st.map (vlV Γ)))
  rw [rf_pos cx hks, rf_pos cx hkd]
  have hls := sh_lt hks hs (by decide)
  have hld := sh_lt hkd ht (by decide)
  have hes := wrl_at Γ M hks hls
  have hed := wrl_at Γ M hkd hld
  rw [en_i hs] at hes
  rw [en_i ht] at hed
  have ho := cp_ok
  simp only [Bool.and_eq_true] at ho
  unfold roomO at hro
  rw [Bool.and_eq_true, Nat.ble_eq, Nat.ble_eq] at hro
  have hf := cx.2.2.2.2.2.2.2.2.2.2
  have hK := cx.2.2.2.2.2.1.1
  have cs := n_clamp h1 (show sp < 2147483648 by omega)
  have cd := n_clamp h2 (show dp < 2147483648 by omega)
  have cn := n_clamp h0 (show n < 2147483648 by omega)
  have ts := n_toI (show -2147483648 ≤ sp by omega) (show sp < 2147483648 by omega)
  have td := n_toI (show -2147483648 ≤ dp by omega) (show dp < 2147483648 by omega)
  have tn := n_toI (show -2147483648 ≤ n by omega) (show n < 2147483648 by omega)
  have hnf : nativeFrameWords "java/lang/System" "arraycopy" 5 ≤ 20 := by decide +kernel
  intro T hT X
  have hc0 : H[gB Γ + (ks - 1).toNat]? = some (vp_cell (Γ.2.1 20) ((shA sh ks).2, .inl fun j => Int32.ofInt (M ks (j : Nat)))) := hX.1.1 _ _ hes
  have hc1 : H[gB Γ + (kd - 1).toNat]? = some (vp_cell (Γ.2.1 20) ((shA sh kd).2, .inl fun j => Int32.ofInt (M kd (j : Nat)))) := hX.1.1 _ _ hed
  obtain ⟨-, k9, hk9, cm9, hkk9⟩ := (hK.2 0 _ rfl).1 (shA sh ks).2 (fun j => .int (Int32.ofInt (M ks (j : Nat))))
  obtain ⟨-, k8, hk8, cm8, hkk8⟩ := (hK.2 0 _ rfl).1 (shA sh kd).2 (fun j => .int (Int32.ofInt (M kd (j : Nat))))
  obtain ⟨vm', X', step⟩ := X.arraycopy cx.1 cx.2.2.2.1 (cx.2.2.2.2.1 _ hlink) (cx.2.2.2.2.1 _ (mb_in ho.1.1)) (cx.2.2.2.2.1 _ (mb_in ho.1.2)) (cx.2.2.2.2.1 _ (mb_in ho.2)) (cs := vp_cell (Γ.2.1 20) ((shA sh ks).2, .inl fun j => Int32.ofInt (M ks (j : Nat)))) (cd := vp_cell (Γ.2.1 20) ((shA sh kd).2, .inl fun j => Int32.ofInt (M kd (j : Nat)))) (srcPos := Int32.ofInt sp) (destPos := Int32.ofInt dp) (n := Int32.ofInt n) (by rw [hT]; exact hc0) (by rw [hT]; exact hc1)
    (fun _ h => by cases h) (fun _ h => by cases h) (fun h => by cases h) (fun h => by cases h) hk9 hk8 hkk9 hkk8 rfl (n_nneg h1 (by omega)) (n_nneg h2 (by omega)) (n_nneg h0 (by omega))
    (by rw [ts, tn]; show ¬ _ > ((arrV _ _ _).slots.size : Int); rw [arrV_size]; omega)
    (by rw [td, tn]; show ¬ _ > ((arrV _ _ _).slots.size : Int); rw [arrV_size]; omega)
    (fun vm₁ _ i hi => by
      rw [cn] at hi
      have e9 : (vp_cell (Γ.2.1 20) ((shA sh ks).2, .inl fun j => Int32.ofInt (M ks (j : Nat)))).slots.getD ((Int32.ofInt sp).toNatClampNeg + i) .null = .int (Int32.ofInt (M ks (((Int32.ofInt sp).toNatClampNeg + i : Nat) : Int))) := by
        show (arrV _ _ _).slots.getD _ _ = _
        rw [Array.getD_eq_getD_getElem?, arrV_read _ _ (by rw [cs]; omega)]
        rfl
      rw [e9]
      exact ⟨rfl, trivial⟩)
    (g := F0 m pc lsA (Value.int (Int32.ofInt n) :: Value.int (Int32.ofInt dp) :: Value.ref (gB Γ + (kd - 1).toNat) :: Value.int (Int32.ofInt sp) :: Value.ref (gB Γ + (ks - 1).toNat) :: st.map (vlV Γ))) rfl (by show lsA.size = _; rw [hL.1.1, cx.2.2.1]) (rest := st.map (vlV Γ)) rfl (by rw [cx.2.1]; exact hd) (by omega) (by rw [wsum_eq]; show 2 * 0 + _ + _ ≤ _; omega)
  have e1 : copied (vp_cell (Γ.2.1 20) ((shA sh ks).2, .inl fun j => Int32.ofInt (M ks (j : Nat)))) (vp_cell (Γ.2.1 20) ((shA sh kd).2, .inl fun j => Int32.ofInt (M kd (j : Nat)))) (Int32.ofInt sp) (Int32.ofInt dp) (Int32.ofInt n) = vp_cell (Γ.2.1 20) ((shA sh kd).2, .inl (va_cpy (fun j : Nat => Int32.ofInt (M ks (j : Nat))) (fun j : Nat => Int32.ofInt (M kd (j : Nat))) (Int32.ofInt sp).toNatClampNeg (Int32.ofInt dp).toNatClampNeg (Int32.ofInt n).toNatClampNeg)) := va_copied (fun z => Value.int z) (Γ.2.1 20) (Γ.2.1 20) (n0 := (shA sh ks).2) (n1 := (shA sh kd).2) (sp := (Int32.ofInt sp).toNatClampNeg) (dp := (Int32.ofInt dp).toNatClampNeg) (n := (Int32.ofInt n).toNatClampNeg) (fun j : Nat => Int32.ofInt (M ks (j : Nat))) (fun j : Nat => Int32.ofInt (M kd (j : Nat))) (by rw [cs, cn]; omega)
  rw [e1] at X' step
  have hl : gB Γ + (kd - 1).toNat < H.size := (Array.getElem?_eq_some_iff.mp hc1).1
  generalize hcell : vp_cell (Γ.2.1 20) ((shA sh kd).2, (Sum.inl (va_cpy (fun j : Nat => Int32.ofInt (M ks (j : Nat))) (fun j : Nat => Int32.ofInt (M kd (j : Nat))) (Int32.ofInt sp).toNatClampNeg (Int32.ofInt dp).toNatClampNeg (Int32.ofInt n).toNatClampNeg) : (Nat → Int32) ⊕ (Nat → Int64) ⊕ (Nat → UInt32) ⊕ (Nat → UInt64) ⊕ (Nat → Option Nat))) = cell at X' step
  have hheap : ((T.setVm vm').setCell (gB Γ + (kd - 1).toNat) cell).heap = H.setIfInBounds (gB Γ + (kd - 1).toNat) cell := by rw [← hT]; rfl
  have oq : ∀ q : Nat, q ≠ gB Γ + (kd - 1).toNat → (H.setIfInBounds (gB Γ + (kd - 1).toNat) cell)[q]? = H[q]? := fun q hq => by rw [Array.getElem?_setIfInBounds, if_neg (Ne.symm hq)]
  have hX1 : HX Γ E (cpM M ks kd sp dp n) sh (H.setIfInBounds (gB Γ + (kd - 1).toNat) cell) := by
    refine hX.put hkd hld (fun p' hp => ?_) ?_ (by simp) oq
    · funext j
      unfold cpM
      rw [if_neg (fun z => hp z.1)]
    · rw [en_i ht]
      show (H.setIfInBounds _ _)[_]? = some (vp_cell _ _)
      rw [← hcell]
      simp only [Array.getElem?_setIfInBounds, if_true, hl]
      congr 4
      funext j
      unfold va_cpy cpM
      rw [cs, cd, cn]
      by_cases hj : dp.toNat ≤ j ∧ j < dp.toNat + n.toNat
      · rw [if_pos hj, if_pos ⟨rfl, by omega, by omega⟩]
        exact congrArg (fun z : Int => Int32.ofInt (M ks z)) (by omega)
      · rw [if_neg hj, if_neg (by omega)]
  obtain ⟨t, a1, b1⟩ := kk _ _ lsA hX1 ⟨by simp; exact hS.1, fun q g1 g2 => by
      rw [oq q (fun e => g2 (by rw [e]; exact Nat.le_add_right _ _))]
      exact hS.2.1 q g1 g2, fun q hq => by
      rcases List.mem_append.mp hq with h | h
      · exact hS.2.2 q h
      · obtain ⟨z, -, hz⟩ := List.mem_map.mp h
        rw [← hz]
        exact Nat.le_add_right _ _⟩ hL _ hheap X'
  exact ⟨t, step t a1, b1⟩
theorem x_multi {n k : Int} {x a b : Nat} {ty : FieldType} (cx : Cx p R s m args meth c Γ E y) (hab : (a = 25 ∧ b = 23 ∧ ty = .long) ∨ (a = 26 ∧ b = 20 ∧ ty = .int)) (hlink : Cond.classLink (onN (oxY y)) x ("[" ++ (FieldType.array ty).toString) ∈ lw_good)
    (h0 : 0 ≤ n) (hn : n ≤ 100) (h1 : 0 ≤ k) (hk : k ≤ 10000) (hn0 : n0 ≤ sh.length) (hk0 : k0 ≤ slotsOf sh) (hc1 : (sh ++ (a, n.toNat) :: List.replicate n.toNat (b, k.toNat)).length - n0 ≤ R.cells) (hc2 : slotsOf (sh ++ (a, n.toNat) :: List.replicate n.toNat (b, k.toNat)) - k0 ≤ R.slots) (hd : decode (bcY y) pc = .ok (.multianewarray x 2, 4)) (kk : SW p l e R s m args below meth c Γ E y n0 k0 Q (pc + 4) ls (vR (sh.length + 1) :: st) (mnM M sh.length n) (sh ++ (a, n.toNat) :: List.replicate n.toNat (b, k.toNat))) : SW p l e R s m args below meth c Γ E y n0 k0 Q pc ls (vI k :: vI n :: st) M sh := by
  intro H locs lsA hX hS hL
  have cn := n_clamp h0 (show n < 2147483648 by omega)
  have ck := n_clamp h1 (show k < 2147483648 by omega)
  have hrep : ∀ (z : Nat) (q : Nat × Nat), slotsOf (List.replicate z q) = z * q.2 := by
    intro z q
    induction z with
    | zero => simp [slotsOf]
    | succ z ih =>
      rw [List.replicate_succ]
      show q.2 + slotsOf (List.replicate z q) = _
      rw [ih, Nat.succ_mul]
      omega
  have hsz : (sh ++ (a, n.toNat) :: List.replicate n.toNat (b, k.toNat)).length - n0 = sh.length - n0 + 1 + n.toNat := by simp only [List.length_append, List.length_cons, List.length_replicate]; omega
  have hss : slotsOf (sh ++ (a, n.toNat) :: List.replicate n.toNat (b, k.toNat)) - k0 = slotsOf sh - k0 + n.toNat + n.toNat * k.toNat := by
    rw [so_app]
    show slotsOf sh + (n.toNat + slotsOf (List.replicate n.toNat (b, k.toNat))) - k0 = _
    rw [hrep]
    show slotsOf sh + (n.toNat + n.toNat * k.toNat) - k0 = _
    omega
  rw [hsz] at hc1
  rw [hss] at hc2
  have hover : (Cond.arrayOver (.array ty)).before args s = true := by
    rcases hab with ⟨-, -, rfl⟩ | ⟨-, -, rfl⟩
    · exact cx.2.2.2.2.2.1.2.2.2.2.2.2.2.2.1
    · exact cx.2.2.2.2.2.1.2.2.2.2.2.2.2.2.2
  have hA := arr_ok
  simp only [Bool.and_eq_true] at hA
  have harr : (Cond.arrayClass ty).before args s = true := by
    rcases hab with ⟨-, -, rfl⟩ | ⟨-, -, rfl⟩
    · exact cx.2.2.2.2.1 _ (mb_in hA.2)
    · exact cx.2.2.2.2.1 _ (mb_in hA.1.1.1)
  have hK := cx.2.2.2.2.2.1.1
  intro T hT X
  subst hT
  obtain ⟨vm₁, cA, comp, hW1, hfA, hfC, hO, hI, X1, step⟩ := X.multianewarray2F cx.1 cx.2.2.2.1 (cx.2.2.2.2.1 _ hlink) hover harr (g := F0 m pc lsA (Value.int (Int32.ofInt k) :: Value.int (Int32.ofInt n) :: st.map (vlV Γ))) rfl (by rw [cx.2.1]; exact hd) (n := Int32.ofInt n) (k := Int32.ofInt k) (rest := st.map (vlV Γ)) rfl (n_nneg h0 (by omega)) (n_nneg h1 (by omega)) (by rw [cn]; omega) (by rw [ck]; rcases hab with ⟨-, -, rfl⟩ | ⟨-, -, rfl⟩ <;> (show k.toNat * _ ≤ _; simp only [componentBytes]; omega)) (by rw [ck]; omega) (by rcases hab with ⟨-, -, rfl⟩ | ⟨-, -, rfl⟩ <;> rfl) (by rcases hab with ⟨-, -, rfl⟩ | ⟨-, -, rfl⟩ <;> rfl) (by rw [cn]; omega) (by rw [cn, ck]; omega)
  rw [cn, ck] at X1 step
  generalize hF : Jvm.Free.Multi.fill (T.setVm vm₁) cA comp n.toNat k.toNat (defaultValue ty) n.toNat = F at X1 step
  have f1 := Jvm.Free.Multi.fill_facts (T.setVm vm₁) cA comp n.toNat k.toNat (defaultValue ty) n.toNat
  have f2 := fun {q : Nat} (hq : q < T.heap.size) => Jvm.Free.Multi.fill_old (T.setVm vm₁) cA comp n.toNat k.toNat (defaultValue ty) (a := q) hq n.toNat
  have f3 := Jvm.Free.Multi.fill_inner (T.setVm vm₁) cA comp n.toNat k.toNat (defaultValue ty) n.toNat
  rw [hF] at f1
  simp only [hF] at f2 f3
  obtain ⟨z1, o1, -, -⟩ := f1
  have z1 : F.heap.size = T.heap.size + 1 + n.toNat := z1
  have o1 : F.heap[T.heap.size]? = some (Jvm.Free.Multi.outerC cA n.toNat T.heap.size n.toNat) := o1
  have f3 : ∀ j, j < n.toNat → F.heap[T.heap.size + 1 + j]? = some (Jvm.Free.Multi.innerC comp k.toNat (defaultValue ty)) := f3
  have hH := hX.1.2
  have hcA : cA = Γ.2.1 a := by
    rcases hab with ⟨rfl, -, rfl⟩ | ⟨rfl, -, rfl⟩
    · exact Option.some.inj (hfA.symm.trans (hK.2 5 _ rfl).2)
    · exact Option.some.inj (hfA.symm.trans (hK.2 6 _ rfl).2)
  have hcC : comp = Γ.2.1 b := by
    rcases hab with ⟨-, rfl, rfl⟩ | ⟨-, rfl, rfl⟩
    · exact Option.some.inj (hfC.symm.trans (hK.2 3 _ rfl).2)
    · exact Option.some.inj (hfC.symm.trans (hK.2 0 _ rfl).2)
  subst hcA
  subst hcC
  have hX1 : HX Γ E (mnM M sh.length n) (sh ++ (a, n.toNat) :: List.replicate n.toNat (b, k.toNat)) F.heap := by
    refine ⟨⟨fun i q hq => ?_, by rw [z1, hH]; simp only [List.length_append, List.length_cons, List.length_replicate]; omega⟩, ⟨?_, fun j hj => ?_⟩, ?_⟩
    · obtain ⟨hi, -⟩ := wrl_key hq
      rw [wrl_get hi] at hq
      cases hq
      simp only [List.length_append, List.length_cons, List.length_replicate] at hi
      rcases Nat.lt_trichotomy i sh.length with h | h | h
      · have hM : mnM M sh.length n ((i : Nat) + 1) = M ((i : Nat) + 1) := by
          funext j
          unfold mnM
          rw [if_neg (by omega), if_neg (by omega)]
        rw [hM, List.getD_eq_getElem?_getD, List.getElem?_append_left h, ← List.getD_eq_getElem?_getD]
        exact (hX.1.1 i _ (wrl_get h)).kept (f2 (by show gB Γ + i < T.heap.size; omega))
      · subst h
        rw [List.getD_eq_getElem?_getD, List.getElem?_append_right (Nat.le_refl _), Nat.sub_self]
        have he : enV Γ (a, n.toNat) (mnM M sh.length n (sh.length + 1)) = .inl (Γ.2.1 a, n.toNat, .inr (.inr (.inr (.inr fun j => gS Γ (mnM M sh.length n (sh.length + 1) (j : Nat)))))) := by
          rcases hab with ⟨rfl, -, -⟩ | ⟨rfl, -, -⟩ <;> rfl
        show va_at Γ.1 clsT (gB Γ + sh.length, enV Γ (a, n.toNat) (mnM M sh.length n (sh.length + 1))) F.heap
        rw [he]
        show F.heap[gB Γ + sh.length]? = some (vp_cell _ _)
        rw [← hH, o1, outer_eq, vp_cell_q]
        have : ∀ j : Nat, j < n.toNat → va_rf (gS Γ (mnM M sh.length n (sh.length + 1) (j : Nat))) = .ref (T.heap.size + 1 + j) := by
          intro j hj
          unfold mnM
          rw [if_pos rfl, if_pos (by omega), gS_pos cx.2.2.2.2.2.2.1 (by omega)]
          refine congrArg Value.ref ?_
          exact mn_ad hH
        have hc : ∀ (f g : Nat → Value), (∀ j, j < n.toNat → f j = g j) → arrV (Γ.2.1 a) n.toNat f = arrV (Γ.2.1 a) n.toNat g := by
          intro f g hfg
          unfold arrV
          congr 1
          apply Array.ext
          · simp
          · intro j h1 h2
            simp only [Array.getElem_ofFn]
            exact hfg j (by simpa using h1)
        rw [hc _ (fun j => va_rf (gS Γ (mnM M sh.length n (sh.length + 1) (j : Nat)))) (fun j hj => by rw [if_pos hj, this j hj])]
      · obtain ⟨j, rfl⟩ : ∃ j, i = sh.length + 1 + j := ⟨i - (sh.length + 1), by omega⟩
        have hj : j < n.toNat := by omega
        rw [List.getD_eq_getElem?_getD, List.getElem?_append_right (by omega), show sh.length + 1 + j - sh.length = j + 1 by omega, List.getElem?_cons_succ, List.getElem?_replicate_of_lt hj]
        have hM : mnM M sh.length n (((sh.length + 1 + j : Nat) : Int) + 1) = fun _ => 0 := by
          funext i
          unfold mnM
          rw [if_neg (by omega), if_pos (by omega)]
        rw [hM]
        show va_at Γ.1 clsT (gB Γ + (sh.length + 1 + j), enV Γ (b, k.toNat) fun _ => 0) F.heap
        have he : enV Γ (b, k.toNat) (fun _ => 0) = .inl (Γ.2.1 b, arV Γ (b, k.toNat) fun _ => 0) := by
          rcases hab with ⟨-, rfl, -⟩ | ⟨-, rfl, -⟩ <;> rfl
        rw [he]
        show F.heap[gB Γ + (sh.length + 1 + j)]? = some (vp_cell _ _)
        rw [show gB Γ + (sh.length + 1 + j) = T.heap.size + 1 + j by omega, f3 j hj]
        show some ({ cls := _, slots := Array.replicate _ _, vm := .none } : Cell) = _
        rw [arrV_new]
        rcases hab with ⟨-, rfl, rfl⟩ | ⟨-, rfl, rfl⟩ <;> rfl
    · unfold mnM
      rw [if_neg (by omega), if_neg (by omega)]
      exact hX.2.1.1
    · unfold mnM
      rw [if_neg (by omega), if_neg (by omega)]
      exact hX.2.1.2 j hj
    · intro q hq
      rcases List.mem_append.mp hq with hq | hq
      · exact hX.2.2 q hq
      · rcases List.mem_cons.mp hq with rfl | hq
        · refine ⟨by show n.toNat ≤ 10000; omega, Or.inr ?_⟩
          rcases hab with ⟨rfl, -, -⟩ | ⟨rfl, -, -⟩ <;> exact ⟨by show 20 ≤ _; omega, by show _ ≤ 26; omega⟩
        · rw [List.eq_of_mem_replicate hq]
          refine ⟨by show k.toNat ≤ 10000; omega, Or.inr ?_⟩
          rcases hab with ⟨-, rfl, -⟩ | ⟨-, rfl, -⟩ <;> exact ⟨by show 20 ≤ _; omega, by show _ ≤ 26; omega⟩
  have h9 := kk F.heap locs lsA hX1 ⟨Nat.le_trans hS.1 (by omega), fun x h1 h2 => (f2 (Nat.lt_of_lt_of_le h1 hS.1)).trans (hS.2.1 x h1 h2), hS.2.2⟩ hL
  rw [hsz, hss] at h9
  have h8 : W p l e R s m args below meth c F.heap locs (sh.length - n0 + 1 + n.toNat) (slotsOf sh - k0 + n.toNat + n.toNat * k.toNat) Q (F0 m (pc + 4) lsA (Value.ref T.heap.size :: st.map (vlV Γ))) := by
    refine W.stk ?_ h9
    show va_rf (gS Γ _) = _
    rw [gS_pos cx.2.2.2.2.2.2.1 (by omega), hH]
    show Value.ref _ = Value.ref _
    rw [show ((sh.length : Int) + 1 - 1).toNat = sh.length by omega]
  obtain ⟨t, a1, b1⟩ := h8 F rfl X1
  exact ⟨t, step t a1, b1⟩
end SIM
