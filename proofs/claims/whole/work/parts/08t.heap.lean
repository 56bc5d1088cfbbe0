/-! THE STEPS, part three: fields, arrays, what is made. -/
theorem cls_get : ∀ a : Nat, a < 13 → clsT[a]? = some (onN a, clTb a, nF a)
  | 0, _ => rfl
  | 1, _ => rfl
  | 2, _ => rfl
  | 3, _ => rfl
  | 4, _ => rfl
  | 5, _ => rfl
  | 6, _ => rfl
  | 7, _ => rfl
  | 8, _ => rfl
  | 9, _ => rfl
  | 10, _ => rfl
  | 11, _ => rfl
  | 12, _ => rfl
  | n + 13, h => absurd h (by omega)
theorem cls_ty : ∀ a : Nat, a < 13 → ∀ k, k < nF a → parseFieldDescriptor (clTb a k).2.2.1 = some (clTy a k)
  | 0, _ => tyX0_ok
  | 1, _ => tyX1_ok
  | 2, _ => tyX2_ok
  | 3, _ => tyX3_ok
  | 4, _ => tyX4_ok
  | 5, _ => tyX5_ok
  | 6, _ => tyX6_ok
  | 7, _ => tyX7_ok
  | 8, _ => tyX8_ok
  | 9, _ => tyX9_ok
  | 10, _ => tyX10_ok
  | 11, _ => tyX11_ok
  | 12, _ => tyX12_ok
  | n + 13, h => absurd h (by omega)
theorem cls_nm : ∀ a : Nat, a < 13 → ∀ i, i < nF a → ∀ j, j < nF a → i ≠ j → (clTb a i).2.1 ≠ (clTb a j).2.1
  | 0, _ => nmX0
  | 1, _ => nmX1
  | 2, _ => nmX2
  | 3, _ => nmX3
  | 4, _ => nmX4
  | 5, _ => nmX5
  | 6, _ => nmX6
  | 7, _ => nmX7
  | 8, _ => nmX8
  | 9, _ => nmX9
  | 10, _ => nmX10
  | 11, _ => nmX11
  | 12, _ => nmX12
  | n + 13, h => absurd h (by omega)
theorem cls_ws {a : Nat} (ha : a < 13) : ∀ w ∈ u_ws (onN a) (clTb a) (nF a), w ∈ lw_good := by
  intro w hw
  unfold u_ws at hw
  obtain ⟨k, hk, rfl⟩ := List.mem_map.mp hw
  exact mb_in (List.all_eq_true.mp (List.all_eq_true.mp lay_ok a (List.mem_range.mpr ha)) k hk)
theorem cls_own : ∀ a : Nat, a < 13 → ∀ k, k < nF a → (clTb a k).1 = onN a := by decide +kernel
theorem cls_four : ((List.range 13).all fun a => (List.range (nF a)).all fun k => match clTy a k with
  | .int => true
  | .boolean => true
  | .long => true
  | .object _ => true
  | .array _ => true
  | _ => false) = true := by decide +kernel
theorem fd_of {y x : Nat} {a b : Int} (h : fdE y x a b = true) : ∃ ca cb : Nat, a = (ca : Int) ∧ b = (cb : Int) ∧ ca < 13 ∧ cb < nF ca ∧ Cond.fieldLink (onN (oxY y)) x (clTb ca cb).1 (clTb ca cb).2.1 (clTb ca cb).2.2.1 ∈ lw_good := by
  unfold fdE at h
  obtain ⟨e, he, h⟩ := List.any_eq_true.mp h
  simp only [Bool.and_eq_true, beq_iff_eq] at h
  obtain ⟨⟨⟨h1, h2⟩, h3⟩, h4⟩ := h
  have hf := List.all_eq_true.mp fld_ok e he
  rw [Bool.and_eq_true, Bool.and_eq_true] at hf
  refine ⟨e.2.2.1, e.2.2.2.1, h3.symm, h4.symm, Nat.blt_eq.mp hf.1.2, Nat.blt_eq.mp hf.2, ?_⟩
  have := mb_in hf.1.1
  rw [h1, h2] at this
  exact this
theorem fsV_len (Γ : Gm) (a : Nat) (f : Int → Int) : (fsV Γ a f).length = nF a := by simp [fsV]
theorem fsV_get {Γ : Gm} {a j : Nat} {f : Int → Int} (h : j < nF a) : (fsV Γ a f)[j]? = some (fdV Γ (ftC a j) (f (j : Nat))) := by
  unfold fsV
  rw [List.getElem?_map, List.getElem?_range h]
  rfl
theorem fsV_up {Γ : Gm} {a cb : Nat} {M : Mem} {k x : Int} (h : cb < nF a) : fsV Γ a (upM M k (cb : Nat) x k) = (fsV Γ a (M k)).set cb (fdV Γ (ftC a cb) x) := by
  apply List.ext_getElem?
  intro i
  by_cases hi : i = cb
  · subst hi
    rw [List.getElem?_set_self (by rw [fsV_len]; exact h), fsV_get h]
    congr 2
    unfold upM
    rw [if_pos ⟨rfl, rfl⟩]
  · rw [List.getElem?_set_ne (Ne.symm hi)]
    by_cases hl : i < nF a
    · rw [fsV_get hl, fsV_get hl]
      congr 2
      unfold upM
      rw [if_neg (fun z => hi (by have := z.2; omega))]
    · rw [List.getElem?_eq_none (by rw [fsV_len]; omega), List.getElem?_eq_none (by rw [fsV_len]; omega)]
theorem upM_ne {M : Mem} {k j v p : Int} (h : p ≠ k) : upM M k j v p = M p := by
  funext i
  unfold upM
  rw [if_neg (fun z => h z.1)]
theorem HX.put {Γ : Gm} {E : Em} {M M' : Mem} {sh : Sh} {k : Int} {H H1 : Heap} (h : HX Γ E M sh H) (hk : 0 < k) (hl : (k - 1).toNat < sh.length) (hM : ∀ p, p ≠ k → M' p = M p) (he : va_at Γ.1 clsT (gB Γ + (k - 1).toNat, enV Γ (shA sh k) (M' k)) H1) (z : H1.size = H.size) (oq : ∀ q : Nat, q ≠ gB Γ + (k - 1).toNat → H1[q]? = H[q]?) : HX Γ E M' sh H1 := by
  refine ⟨h.1.set hk hl hM he z oq, ⟨?_, fun j hj => ?_⟩, h.2.2⟩
  · rw [hM (-2000) (by omega)]; exact h.2.1.1
  · rw [hM (-2000) (by omega)]; exact h.2.1.2 j hj
theorem lk_off (x : Int) (pc : Nat) (D : Int) : ∀ ps : List (Int × Int), (∀ o ∈ ps, 0 ≤ (pc : Int) + o.2) → 0 ≤ (pc : Int) + D → (pc : Int) + Op.lookupswitch.offset ps D x = (swL x ((pc : Int) + D).toNat (ps.map (fun q => (q.1, ((pc : Int) + q.2).toNat))) : Int)
  | [], _, hD => by rw [Op.lookupswitch.offset_nil]; show _ = (((pc : Int) + D).toNat : Int); omega
  | (a, o) :: r, h, hD => by
    rw [Op.lookupswitch.offset_cons, List.map_cons]
    show _ = ((if x = a then ((pc : Int) + o).toNat else swL x ((pc : Int) + D).toNat (r.map (fun q => (q.1, ((pc : Int) + q.2).toNat))) : Nat) : Int)
    have h0 := h (a, o) List.mem_cons_self
    by_cases ha : a = x
    · rw [if_pos ha, if_pos ha.symm]
      show _ = (((pc : Int) + o).toNat : Int)
      have : 0 ≤ (pc : Int) + o := h0
      omega
    · rw [if_neg ha, if_neg (Ne.symm ha)]
      exact lk_off x pc D r (fun q hq => h q (List.mem_cons_of_mem _ hq)) hD
theorem tb_in (x lo : Int) (pc d : Nat) : ∀ (l : List Int) (n : Nat), lo + n ≤ x → x < lo + n + l.length → ∃ o, l[(x - lo - n).toNat]? = some o ∧ swL x d ((l.zipIdx n).map (fun q => (lo + (q.2 : Int), ((pc : Int) + q.1).toNat))) = ((pc : Int) + o).toNat
  | [], n, h1, h2 => by simp at h2; omega
  | o :: r, n, h1, h2 => by
    rw [List.zipIdx_cons, List.map_cons]
    show ∃ o', _ ∧ (if x = lo + (n : Int) then ((pc : Int) + o).toNat else swL x d _) = _
    by_cases hx : x = lo + (n : Int)
    · refine ⟨o, ?_, if_pos hx⟩
      rw [show (x - lo - (n : Int)).toNat = 0 by omega]
      rfl
    · obtain ⟨o', e1, e2⟩ := tb_in x lo pc d r (n + 1) (by omega) (by rw [List.length_cons] at h2; omega)
      refine ⟨o', ?_, by rw [if_neg hx]; exact e2⟩
      rw [show (x - lo - (n : Int)).toNat = (x - lo - ((n + 1 : Nat) : Int)).toNat + 1 by omega, List.getElem?_cons_succ]
      exact e1
theorem tb_out (x lo : Int) (pc d : Nat) : ∀ (l : List Int) (n : Nat), (x < lo + n ∨ lo + n + l.length ≤ x) → swL x d ((l.zipIdx n).map (fun q => (lo + (q.2 : Int), ((pc : Int) + q.1).toNat))) = d
  | [], n, h => rfl
  | o :: r, n, h => by
    rw [List.zipIdx_cons, List.map_cons]
    show (if x = lo + (n : Int) then ((pc : Int) + o).toNat else swL x d _) = _
    rw [List.length_cons] at h
    rw [if_neg (by omega)]
    exact tb_out x lo pc d r (n + 1) (by omega)
section SIM
variable {p : Program} {l : Launch} {e : Env} {R : Room} {s : State} {m : MethodId} {args : Array Value} {below : List Frame} {meth : Method} {c : Code} {Q : State → Prop}
variable {Γ : Gm} {E : Em} {y n0 k0 pc : Nat} {ls : Lo} {st : List AV} {M : Mem} {sh : Sh}
theorem rf_pos (cx : Cx p R s m args meth c Γ E y) {k : Int} (hk : 0 < k) : vlV Γ (vR k) = .ref (gB Γ + (k - 1).toNat) := by
  show va_rf (gS Γ k) = _
  rw [gS_pos cx.2.2.2.2.2.2.1 hk]
  rfl
theorem x_get {ca cb : Nat} {x : Nat} (cx : Cx p R s m args meth c Γ E y) (hca : ca < 13) (hcb : cb < nF ca) (hlink : Cond.fieldLink (onN (oxY y)) x (clTb ca cb).1 (clTb ca cb).2.1 (clTb ca cb).2.2.1 ∈ lw_good) {k : Int} (hk : 0 < k) (hsh : (shA sh k).1 = ca) (hd : decode (bcY y) pc = .ok (.getfield x, 3))
    {v : AV} (hv : fdV Γ (ftC ca cb) (M k (cb : Nat)) = vlV Γ v) (kk : SW p l e R s m args below meth c Γ E y n0 k0 Q (pc + 3) ls (v :: st) M sh) : SW p l e R s m args below meth c Γ E y n0 k0 Q pc ls (vR k :: st) M sh := by
  intro H locs lsA hX hS hL
  refine W.stk (rf_pos cx hk).symm ?_
  have hl := sh_lt hk hsh (by omega)
  have he := wrl_at Γ M hk hl
  rw [en_o (by rw [hsh]; exact hca), hsh] at he
  exact va_get (D := Γ.1) (cl := clsT) (tys := tysG Γ) cx.1 cx.2.1 cx.2.2.2.2.1 (cls_ws hca) cx.2.2.2.1 cx.2.2.2.2.2.1.1 hX.1.1 (k - 1).toNat he (cls_get ca hca) cb hcb (cx.2.2.2.2.1 _ hlink) (fun _ h => h) (fsV_get hcb) hd (W.stk hv.symm (kk H locs lsA hX hS hL))
theorem x_put {ca cb : Nat} {x : Nat} (cx : Cx p R s m args meth c Γ E y) (hca : ca < 13) (hcb : cb < nF ca) (hlink : Cond.fieldLink (onN (oxY y)) x (clTb ca cb).1 (clTb ca cb).2.1 (clTb ca cb).2.2.1 ∈ lw_good) {k : Int} (hk : 0 < k) (hsh : (shA sh k).1 = ca) (hd : decode (bcY y) pc = .ok (.putfield x, 3))
    {v : AV} {z : Int} (hv : vlV Γ v = fdV Γ (ftC ca cb) z) (hn : narrow (clTy ca cb) (vlV Γ v) = vlV Γ v) (hfit : fits (clTy ca cb) (vlV Γ v) = true) (hfin : (clTb ca cb).2.2.2 = true → isIni y = true ∧ oxY y = ca)
    (kk : SW p l e R s m args below meth c Γ E y n0 k0 Q (pc + 3) ls st (upM M k (cb : Nat) z) sh) : SW p l e R s m args below meth c Γ E y n0 k0 Q pc ls (v :: vR k :: st) M sh := by
  intro H locs lsA hX hS hL
  show W p l e R s m args below meth c H locs _ _ Q (F0 m pc lsA (vlV Γ v :: vlV Γ (vR k) :: st.map (vlV Γ)))
  rw [rf_pos cx hk]
  have hl := sh_lt hk hsh (by omega)
  have he := wrl_at Γ M hk hl
  have hq : shA sh k = (ca, (shA sh k).2) := by rw [← hsh]
  rw [en_o (by rw [hsh]; exact hca), hsh] at he
  have hts := cx.2.2.2.2.1
  have hin := cls_ws hca
  have hK := cx.2.2.2.2.2.1.1
  have hc := cls_get ca hca
  have hown := cx.2.2.2.1
  have hap := va_apart (own := onN (oxY y)) hts hin (clTy ca) (cls_ty ca hca) (cls_nm ca hca) hK hc
  obtain ⟨r, h1, cell, q1, q2, q3, q4⟩ := hX.1.1 (k - 1).toNat _ he
  have hr : r = (onN ca, clTb ca, nF ca) := Option.some.inj (h1.symm.trans hc)
  subst hr
  obtain ⟨hSl, hfc, kC, hkC, hkind⟩ := hK.1 ca _ hc
  obtain ⟨cf, kf, fi, f, hi, hsl⟩ := hSl cb hcb
  have hlay := hts _ (hin _ (u_in_lay hcb))
  have hst := (u_facts hfc hkC (u_lays hts hin hcb) hi).1
  have hdd := cls_ty ca hca cb hcb
  have hlen : cb < (fsV Γ ca (M k)).length := by rw [fsV_len]; exact hcb
  have fin : ∀ H' : Heap, H'[gB Γ + (k - 1).toNat]? = some (cell.setSlot f.slot (vlV Γ v)) → H'.size = H.size → (∀ q, q ≠ gB Γ + (k - 1).toNat → H'[q]? = H[q]?) → W p l e R s m args below meth c H' (locs ++ [⟨gB Γ + (k - 1).toNat, f.slot⟩]) (sh.length - n0) (slotsOf sh - k0) Q (F0 m (pc + 3) lsA (st.map (vlV Γ))) := by
    intro H' e1 e2 e3
    rw [hsl] at e1 ⊢
    refine kk H' _ lsA (hX.put hk hl (fun p' hp => upM_ne hp) ?_ e2 e3) (hS.put e2 e3 (Nat.le_add_right _ _)) hL
    rw [hq, en_o hca, fsV_up hcb, ← hv]
    exact ⟨_, hc, t_OB.to (V := updV (vp_V (fsV Γ ca (M k))) cb (vlV Γ v)) ⟨_, e1, q2, q3, t_set q4 hap hcb (vlV Γ v)⟩ (fun j _ => vp_updV_set hlen (vlV Γ v) j)⟩
  by_cases hf : (clTb ca cb).2.2.2 = true
  · unfold u_lay at hlay
    rw [if_pos hf] at hlay
    have hcf : m.cls = cf := by
      obtain ⟨_, _, c', _, _, _, -, -, hf', -, -, -, hown2, -⟩ := Cond.laysFinal_spec hlay
      have e1 : c' = cf := by have := hi.symm.trans hf'; simp at this; exact this.1.symm
      rw [cls_own ca hca cb hcb, ← (hfin hf).2] at hown2
      rw [← e1]; exact Option.some.inj (hown.symm.trans hown2)
    have h6 := u_fits hfc hkC hkind (Or.inr hlay) hi hdd hn hfit
    exact W.putFinK cx.1 cx.2.1 hown (hts _ hlink) hi hst hcf (cx.2.2.2.2.2.2.2.2.2.2.2.2 (hfin hf).1) (by rw [q2]; exact h6) q1 q3 (by rw [hsl]; exact k2_hasslot (q4 cb hcb)) rfl rfl hd fin
  · have hf : (clTb ca cb).2.2.2 = false := Bool.eq_false_iff.mpr hf
    unfold u_lay at hlay
    rw [if_neg (by rw [hf]; decide)] at hlay
    have h6 := u_store hfc hkC hkind hlay hi hdd hn hfit
    exact W.putK cx.1 cx.2.1 (f := f) ⟨hown, hts _ hlink, ⟨_, _, _, hi⟩, hst⟩ (by rw [q2]; exact h6) q1 q3 (by rw [hsl]; exact k2_hasslot (q4 cb hcb)) rfl rfl hd fin
/-- arrays -/
theorem x_alen {k : Int} (cx : Cx p R s m args meth c Γ E y) (hk : 0 < k) (h20 : 20 ≤ (shA sh k).1) (h26 : (shA sh k).1 ≤ 26) (hd : decode (bcY y) pc = .ok (.arraylength, 1)) (kk : SW p l e R s m args below meth c Γ E y n0 k0 Q (pc + 1) ls (vI (shA sh k).2 :: st) M sh) : SW p l e R s m args below meth c Γ E y n0 k0 Q pc ls (vR k :: st) M sh := by
  intro H locs lsA hX hS hL
  refine W.stk (rf_pos cx hk).symm ?_
  have hl := sh_lt hk (rfl : (shA sh k).1 = (shA sh k).1) (by omega)
  have he := wrl_at Γ M hk hl
  have hK := cx.2.2.2.2.2.1.1
  have go : ∀ {ty : FieldType} (t0 : Nat) (x : vp_A), enV Γ (shA sh k) (M k) = .inl (Γ.2.1 (shA sh k).1, x) → x.1 = (shA sh k).2 → (tysG Γ)[t0]? = some (Γ.2.1 (shA sh k).1, ty) → W p l e R s m args below meth c H locs (sh.length - n0) (slotsOf sh - k0) Q (F0 m pc lsA (Value.ref (gB Γ + (k - 1).toNat) :: st.map (vlV Γ))) := by
    intro ty t0 x e1 e2 e3
    rw [e1] at he
    exact va_alen cx.1 cx.2.1 hK hX.1.1 (k - 1).toNat t0 he e3 (by rw [e2]; exact Int32.ofInt_eq_ofNat.symm) hd (kk H locs lsA hX hS hL)
  rcases (show (shA sh k).1 = 20 ∨ (shA sh k).1 = 21 ∨ (shA sh k).1 = 22 ∨ (shA sh k).1 = 23 ∨ (shA sh k).1 = 24 ∨ (shA sh k).1 = 25 ∨ (shA sh k).1 = 26 by omega) with h | h | h | h | h | h | h
  · exact go 0 _ (by rw [en_i h, h]) rfl (by rw [h]; rfl)
  · exact go 1 _ (by rw [en_b h, h]) rfl (by rw [h]; rfl)
  · exact go 2 _ (by rw [en_z h, h]) rfl (by rw [h]; rfl)
  · exact go 3 _ (by rw [en_l h, h]) rfl (by rw [h]; rfl)
  · exact go 4 _ (by rw [en_r h, h]) rfl (by rw [h]; rfl)
  · exact go 5 _ (by rw [en_rl h, h]) rfl (by rw [h]; rfl)
  · exact go 6 _ (by rw [en_ri h, h]) rfl (by rw [h]; rfl)
theorem in_arr {i : Int} (hsh : ShOk sh) {k : Int} (hk : 0 < k) (h0 : 0 ≤ i) (hi : i < (shA sh k).2) : vp_in (Int32.ofInt i) (shA sh k).2 ∧ (Int32.ofInt i).toNatClampNeg = i.toNat := by
  have := sh_len hsh hk
  exact ⟨n_in h0 hi (by omega), n_clamp h0 (by omega)⟩
theorem x_iald {k i : Int} (cx : Cx p R s m args meth c Γ E y) (hk : 0 < k) (hsh : (shA sh k).1 = 20) (h0 : 0 ≤ i) (hi : i < (shA sh k).2) (hd : decode (bcY y) pc = .ok (.iaload, 1)) (kk : SW p l e R s m args below meth c Γ E y n0 k0 Q (pc + 1) ls (vI (M k i) :: st) M sh) : SW p l e R s m args below meth c Γ E y n0 k0 Q pc ls (vI i :: vR k :: st) M sh := by
  intro H locs lsA hX hS hL
  show W p l e R s m args below meth c H locs _ _ Q (F0 m pc lsA (Value.int (Int32.ofInt i) :: vlV Γ (vR k) :: st.map (vlV Γ)))
  rw [rf_pos cx hk]
  have he := wrl_at Γ M hk (sh_lt hk hsh (by decide))
  rw [en_i hsh] at he
  obtain ⟨hin, hcl⟩ := in_arr hX.2.2 hk h0 hi
  refine va_iald cx.1 cx.2.1 cx.2.2.2.2.2.1.1 hX.1.1 (k - 1).toNat 0 he rfl hin hd (W.stk ?_ (kk H locs lsA hX hS hL))
  show Value.int (Int32.ofInt (M k i)) = Value.int (Int32.ofInt (M k (((Int32.ofInt i).toNatClampNeg : Nat) : Int)))
  rw [hcl, Int.toNat_of_nonneg h0]
theorem x_bald {k i : Int} (cx : Cx p R s m args meth c Γ E y) (hk : 0 < k) (hsh : (shA sh k).1 = 21 ∨ (shA sh k).1 = 22) (h0 : 0 ≤ i) (hi : i < (shA sh k).2) (hd : decode (bcY y) pc = .ok (.baload, 1)) (kk : SW p l e R s m args below meth c Γ E y n0 k0 Q (pc + 1) ls (vI (M k i) :: st) M sh) : SW p l e R s m args below meth c Γ E y n0 k0 Q pc ls (vI i :: vR k :: st) M sh := by
  intro H locs lsA hX hS hL
  show W p l e R s m args below meth c H locs _ _ Q (F0 m pc lsA (Value.int (Int32.ofInt i) :: vlV Γ (vR k) :: st.map (vlV Γ)))
  rw [rf_pos cx hk]
  obtain ⟨hin, hcl⟩ := in_arr hX.2.2 hk h0 hi
  have e9 : Value.int (Int32.ofInt (M k i)) = Value.int (Int32.ofInt (M k (((Int32.ofInt i).toNatClampNeg : Nat) : Int))) := by rw [hcl, Int.toNat_of_nonneg h0]
  rcases hsh with hsh | hsh
  · have he := wrl_at Γ M hk (sh_lt hk hsh (by decide))
    rw [en_b hsh] at he
    exact va_bald cx.1 cx.2.1 cx.2.2.2.2.2.1.1 hX.1.1 (k - 1).toNat 1 he rfl hin hd (W.stk e9 (kk H locs lsA hX hS hL))
  · have he := wrl_at Γ M hk (sh_lt hk hsh (by decide))
    rw [en_z hsh] at he
    exact va_zald cx.1 cx.2.1 cx.2.2.2.2.2.1.1 hX.1.1 (k - 1).toNat 2 he rfl hin hd (W.stk e9 (kk H locs lsA hX hS hL))
theorem x_lald {k i : Int} (cx : Cx p R s m args meth c Γ E y) (hk : 0 < k) (hsh : (shA sh k).1 = 23) (h0 : 0 ≤ i) (hi : i < (shA sh k).2) (hd : decode (bcY y) pc = .ok (.laload, 1)) (kk : SW p l e R s m args below meth c Γ E y n0 k0 Q (pc + 1) ls (vL (M k i) :: st) M sh) : SW p l e R s m args below meth c Γ E y n0 k0 Q pc ls (vI i :: vR k :: st) M sh := by
  intro H locs lsA hX hS hL
  show W p l e R s m args below meth c H locs _ _ Q (F0 m pc lsA (Value.int (Int32.ofInt i) :: vlV Γ (vR k) :: st.map (vlV Γ)))
  rw [rf_pos cx hk]
  have he := wrl_at Γ M hk (sh_lt hk hsh (by decide))
  rw [en_l hsh] at he
  obtain ⟨hin, hcl⟩ := in_arr hX.2.2 hk h0 hi
  refine va_lald cx.1 cx.2.1 cx.2.2.2.2.2.1.1 hX.1.1 (k - 1).toNat 3 he rfl hin hd (W.stk ?_ (kk H locs lsA hX hS hL))
  show Value.long (Int64.ofInt (M k i)) = Value.long (Int64.ofInt (M k (((Int32.ofInt i).toNatClampNeg : Nat) : Int)))
  rw [hcl, Int.toNat_of_nonneg h0]
theorem x_aald {k i : Int} (cx : Cx p R s m args meth c Γ E y) (hk : 0 < k) (hsh : (shA sh k).1 = 24 ∨ (shA sh k).1 = 25 ∨ (shA sh k).1 = 26) (h0 : 0 ≤ i) (hi : i < (shA sh k).2) (hd : decode (bcY y) pc = .ok (.aaload, 1)) (kk : SW p l e R s m args below meth c Γ E y n0 k0 Q (pc + 1) ls (vR (M k i) :: st) M sh) : SW p l e R s m args below meth c Γ E y n0 k0 Q pc ls (vI i :: vR k :: st) M sh := by
  intro H locs lsA hX hS hL
  show W p l e R s m args below meth c H locs _ _ Q (F0 m pc lsA (Value.int (Int32.ofInt i) :: vlV Γ (vR k) :: st.map (vlV Γ)))
  rw [rf_pos cx hk]
  obtain ⟨hin, hcl⟩ := in_arr hX.2.2 hk h0 hi
  have hlt : (Int32.ofInt i).toNatClampNeg < (shA sh k).2 := by rw [hcl]; omega
  have hK := cx.2.2.2.2.2.1.1
  have go : ∀ (ca : ClassId) (ty : FieldType) (t0 : Nat), ty.isReference = true → (tysG Γ)[t0]? = some (ca, ty) → (wrl Γ M sh)[(k - 1).toNat]? = some (gB Γ + (k - 1).toNat, .inl (ca, (shA sh k).2, .inr (.inr (.inr (.inr fun j => gS Γ (M k (j : Nat))))))) → W p l e R s m args below meth c H locs (sh.length - n0) (slotsOf sh - k0) Q (F0 m pc lsA (Value.int (Int32.ofInt i) :: Value.ref (gB Γ + (k - 1).toNat) :: st.map (vlV Γ))) := by
    intro ca ty t0 hr ht he
    refine W.aald (v := va_rf (gS Γ (M k (((Int32.ofInt i).toNatClampNeg : Nat) : Int)))) (ty := ty) cx.1 cx.2.1 (hX.1.1 (k - 1).toNat _ he) ((hK.2 t0 _ ht).1 (shA sh k).2 (fun j => va_rf (gS Γ (M k (j : Nat))))) hr (fun q => by cases q) (by show ¬ (_ < _ ∨ (arrV _ _ _).slots.size ≤ _); rw [arrV_size]; exact hin) (by show (arrV _ _ _).slots[_]? = _; rw [arrV_read _ _ hlt]) rfl rfl hd ?_
    refine W.stk ?_ (kk H locs lsA hX hS hL)
    show va_rf (gS Γ (M k i)) = _
    rw [hcl, Int.toNat_of_nonneg h0]
  rcases hsh with hsh | hsh | hsh
  · have he := wrl_at Γ M hk (sh_lt hk hsh (by decide))
    rw [en_r hsh] at he
    exact go _ _ 4 rfl rfl he
  · have he := wrl_at Γ M hk (sh_lt hk hsh (by decide))
    rw [en_rl hsh] at he
    exact go _ _ 5 rfl rfl he
  · have he := wrl_at Γ M hk (sh_lt hk hsh (by decide))
    rw [en_ri hsh] at he
    exact go _ _ 6 rfl rfl he
theorem ar_up {α : Type} {f : Int → Int} {g : Int → α} {i : Int} {v : α} {z : Int} (h0 : 0 ≤ i) (hg : g z = v) : (fun j : Nat => g ((fun b => if b = i then z else f b) (j : Nat))) = fun j : Nat => if j = i.toNat then v else g (f (j : Nat)) := by
  funext j
  by_cases hj : j = i.toNat
  · have : (j : Int) = i := by omega
    show g (if (j : Int) = i then z else f (j : Nat)) = if j = i.toNat then v else g (f (j : Nat))
    rw [if_pos this, if_pos hj]
    exact hg
  · have : ¬ (j : Int) = i := by omega
    show g (if (j : Int) = i then z else f (j : Nat)) = if j = i.toNat then v else g (f (j : Nat))
    rw [if_neg this, if_neg hj]
theorem upM_at (M : Mem) (k i z : Int) : upM M k i z k = fun b => if b = i then z else M k b := by
  funext b
  unfold upM
  by_cases hb : b = i
  · rw [if_pos ⟨rfl, hb⟩, if_pos hb]
  · rw [if_neg (fun q => hb q.2), if_neg hb]
theorem x_iast {k i v : Int} (cx : Cx p R s m args meth c Γ E y) (hk : 0 < k) (hsh : (shA sh k).1 = 20) (h0 : 0 ≤ i) (hi : i < (shA sh k).2) (hd : decode (bcY y) pc = .ok (.iastore, 1)) (kk : SW p l e R s m args below meth c Γ E y n0 k0 Q (pc + 1) ls st (upM M k i v) sh) : SW p l e R s m args below meth c Γ E y n0 k0 Q pc ls (vI v :: vI i :: vR k :: st) M sh := by
  intro H locs lsA hX hS hL
  show W p l e R s m args below meth c H locs _ _ Q (F0 m pc lsA (Value.int (Int32.ofInt v) :: Value.int (Int32.ofInt i) :: vlV Γ (vR k) :: st.map (vlV Γ)))
  rw [rf_pos cx hk]
  have hl := sh_lt hk hsh (by decide)
  have he := wrl_at Γ M hk hl
  rw [en_i hsh] at he
  obtain ⟨hin, hcl⟩ := in_arr hX.2.2 hk h0 hi
  refine W.iast cx.1 cx.2.1 (hX.1.1 (k - 1).toNat _ he) ((cx.2.2.2.2.2.1.1.2 0 _ rfl).1 (shA sh k).2 (fun j => .int (Int32.ofInt (M k (j : Nat))))) (fun q => by cases q) (by show ¬ (_ < _ ∨ (arrV _ _ _).slots.size ≤ _); rw [arrV_size]; exact hin) rfl rfl hd fun H1 e z oq => ?_
  refine kk H1 _ lsA (hX.put hk hl (fun p' hp => upM_ne hp) ?_ z oq) (hS.put z oq (Nat.le_add_right _ _)) hL
  rw [en_i hsh, upM_at]
  show H1[gB Γ + (k - 1).toNat]? = some (vp_cell _ _)
  rw [e, ar_up (g := Int32.ofInt) h0 rfl, vp_cell_i, vp_cell_i, arrV_store, hcl]
  congr 2
  funext j
  by_cases hq : j = i.toNat <;> simp [updV, hq]
theorem x_bast {k i v : Int} (cx : Cx p R s m args meth c Γ E y) (hk : 0 < k) (hsh : ((shA sh k).1 = 21 ∧ -128 ≤ v ∧ v < 128) ∨ ((shA sh k).1 = 22 ∧ 0 ≤ v ∧ v ≤ 1)) (h0 : 0 ≤ i) (hi : i < (shA sh k).2) (hd : decode (bcY y) pc = .ok (.bastore, 1)) (kk : SW p l e R s m args below meth c Γ E y n0 k0 Q (pc + 1) ls st (upM M k i v) sh) : SW p l e R s m args below meth c Γ E y n0 k0 Q pc ls (vI v :: vI i :: vR k :: st) M sh := by
  intro H locs lsA hX hS hL
  show W p l e R s m args below meth c H locs _ _ Q (F0 m pc lsA (Value.int (Int32.ofInt v) :: Value.int (Int32.ofInt i) :: vlV Γ (vR k) :: st.map (vlV Γ)))
  rw [rf_pos cx hk]
  obtain ⟨hin, hcl⟩ := in_arr hX.2.2 hk h0 hi
  rcases hsh with ⟨hsh, hv1, hv2⟩ | ⟨hsh, hv1, hv2⟩
  · have hl := sh_lt hk hsh (by decide)
    have he := wrl_at Γ M hk hl
    rw [en_b hsh] at he
    refine W.bast cx.1 cx.2.1 (hX.1.1 (k - 1).toNat _ he) ((cx.2.2.2.2.2.1.1.2 1 _ rfl).1 (shA sh k).2 (fun j => .int (Int32.ofInt (M k (j : Nat))))) (fun q => by cases q) (by show ¬ (_ < _ ∨ (arrV _ _ _).slots.size ≤ _); rw [arrV_size]; exact hin) rfl rfl hd fun H1 e z oq => ?_
    refine kk H1 _ lsA (hX.put hk hl (fun p' hp => upM_ne hp) ?_ z oq) (hS.put z oq (Nat.le_add_right _ _)) hL
    rw [en_b hsh, upM_at]
    show H1[gB Γ + (k - 1).toNat]? = some (vp_cell _ _)
    have hn : narrow .byte (.int (Int32.ofInt v)) = .int (Int32.ofInt v) := by
      have h9 := n_narB hv1 hv2
      rw [vp_nar_byte] at h9
      show Value.int (Int32.ofInt v).toInt8.toInt32 = _
      rw [h9]
    rw [e, ar_up (g := Int32.ofInt) h0 rfl, vp_cell_i, vp_cell_i, hn, arrV_store, hcl]
    congr 2
    funext j
    by_cases hq : j = i.toNat <;> simp [updV, hq]
  · have hl := sh_lt hk hsh (by decide)
    have he := wrl_at Γ M hk hl
    rw [en_z hsh] at he
    refine W.zast cx.1 cx.2.1 (hX.1.1 (k - 1).toNat _ he) ((cx.2.2.2.2.2.1.1.2 2 _ rfl).1 (shA sh k).2 (fun j => .int (Int32.ofInt (M k (j : Nat))))) (fun q => by cases q) (by show ¬ (_ < _ ∨ (arrV _ _ _).slots.size ≤ _); rw [arrV_size]; exact hin) rfl rfl hd fun H1 e z oq => ?_
    refine kk H1 _ lsA (hX.put hk hl (fun p' hp => upM_ne hp) ?_ z oq) (hS.put z oq (Nat.le_add_right _ _)) hL
    rw [en_z hsh, upM_at]
    show H1[gB Γ + (k - 1).toNat]? = some (vp_cell _ _)
    have hn : narrow .boolean (.int (Int32.ofInt v)) = .int (Int32.ofInt v) := by
      rcases (show v = 0 ∨ v = 1 by omega) with rfl | rfl <;> rfl
    rw [e, ar_up (g := Int32.ofInt) h0 rfl, vp_cell_i, vp_cell_i, hn, arrV_store, hcl]
    congr 2
    funext j
    by_cases hq : j = i.toNat <;> simp [updV, hq]
theorem x_last {k i v : Int} (cx : Cx p R s m args meth c Γ E y) (hk : 0 < k) (hsh : (shA sh k).1 = 23) (h0 : 0 ≤ i) (hi : i < (shA sh k).2) (hd : decode (bcY y) pc = .ok (.lastore, 1)) (kk : SW p l e R s m args below meth c Γ E y n0 k0 Q (pc + 1) ls st (upM M k i v) sh) : SW p l e R s m args below meth c Γ E y n0 k0 Q pc ls (vL v :: vI i :: vR k :: st) M sh := by
  intro H locs lsA hX hS hL
  show W p l e R s m args below meth c H locs _ _ Q (F0 m pc lsA (Value.long (Int64.ofInt v) :: Value.int (Int32.ofInt i) :: vlV Γ (vR k) :: st.map (vlV Γ)))
  rw [rf_pos cx hk]
  have hl := sh_lt hk hsh (by decide)
  have he := wrl_at Γ M hk hl
  rw [en_l hsh] at he
  obtain ⟨hin, hcl⟩ := in_arr hX.2.2 hk h0 hi
  refine W.last cx.1 cx.2.1 (hX.1.1 (k - 1).toNat _ he) ((cx.2.2.2.2.2.1.1.2 3 _ rfl).1 (shA sh k).2 (fun j => .long (Int64.ofInt (M k (j : Nat))))) (fun q => by cases q) (by show ¬ (_ < _ ∨ (arrV _ _ _).slots.size ≤ _); rw [arrV_size]; exact hin) rfl rfl hd fun H1 e z oq => ?_
  refine kk H1 _ lsA (hX.put hk hl (fun p' hp => upM_ne hp) ?_ z oq) (hS.put z oq (Nat.le_add_right _ _)) hL
  rw [en_l hsh, upM_at]
  show H1[gB Γ + (k - 1).toNat]? = some (vp_cell _ _)
  rw [e, ar_up (g := Int64.ofInt) h0 rfl, vp_cell_l, vp_cell_l, arrV_store, hcl]
  congr 2
  funext j
  by_cases hq : j = i.toNat <;> simp [updV, hq]
theorem x_aast {k i v : Int} (cx : Cx p R s m args meth c Γ E y) (hk : 0 < k) (hsh : (shA sh k).1 = 24) (hv0 : 0 < v) (hv : (shA sh v).1 = 5) (h0 : 0 ≤ i) (hi : i < (shA sh k).2) (hd : decode (bcY y) pc = .ok (.aastore, 1)) (kk : SW p l e R s m args below meth c Γ E y n0 k0 Q (pc + 1) ls st (upM M k i v) sh) : SW p l e R s m args below meth c Γ E y n0 k0 Q pc ls (vR v :: vI i :: vR k :: st) M sh := by
  intro H locs lsA hX hS hL
  show W p l e R s m args below meth c H locs _ _ Q (F0 m pc lsA (vlV Γ (vR v) :: Value.int (Int32.ofInt i) :: vlV Γ (vR k) :: st.map (vlV Γ)))
  rw [rf_pos cx hk, rf_pos cx hv0]
  have hl := sh_lt hk hsh (by decide)
  have he := wrl_at Γ M hk hl
  rw [en_r hsh] at he
  have hev := wrl_at Γ M hv0 (sh_lt hv0 hv (by decide))
  rw [en_o (by rw [hv]; decide), hv] at hev
  obtain ⟨hin, hcl⟩ := in_arr hX.2.2 hk h0 hi
  have hK := cx.2.2.2.2.2.1.1
  have hlt : (Int32.ofInt i).toNatClampNeg < (shA sh k).2 := Nat.not_le.mp fun q => hin (Or.inr q)
  have hn0 : ¬ Int32.ofInt i < 0 := fun q => hin (Or.inl q)
  obtain ⟨r', hr', cellV, g1, g2, g3, -⟩ := hX.1.1 (v - 1).toNat _ hev
  have hr5 : r' = (onN 5, clTb 5, nF 5) := Option.some.inj (hr'.symm.trans (cls_get 5 (by decide)))
  have hcls := (hK.1 5 _ (cls_get 5 (by decide))).2
  obtain ⟨kA, comp, k1, k2, k3, -⟩ := (hK.2 4 _ rfl).2
  have hcomp : comp = Γ.1.1 5 := Option.some.inj (k3.symm.trans hcls.1)
  subst hcomp
  obtain ⟨kC, hkC, -⟩ := hcls.2
  refine W.aast cx.1 cx.2.1 (hX.1.1 (k - 1).toNat _ he) (fun q h => by cases h) (fun h => by cases h) k1 k2 rfl hkC ⟨hn0, by show _ < (arrV _ _ _).slots.size; rw [arrV_size]; exact hlt⟩ g1 (fun q h => by rw [g3] at h; cases h) (by rw [g2]; exact hkC) (by rw [g2]; exact va_assign hcls) rfl rfl hd fun H1 e z oq => ?_
  refine kk H1 _ lsA (hX.put hk hl (fun p' hp => upM_ne hp) ?_ z oq) (hS.put z oq (Nat.le_add_right _ _)) hL
  rw [en_r hsh, upM_at]
  show H1[gB Γ + (k - 1).toNat]? = some (vp_cell _ _)
  rw [e, ar_up (g := gS Γ) h0 (gS_pos cx.2.2.2.2.2.2.1 hv0), vp_cell_q, vp_cell_q, arrV_store, hcl]
  congr 2
  funext j
  by_cases hq : j = i.toNat <;> simp [updV, hq, va_rf]
end SIM
