/-! THE WORLD: the small machine's memory as cells of the real one. -/
/-- classes; array classes by kind; what a reference is; the first own cell -/
abbrev Gm : Type := va_G × (Nat → ClassId) × (Int → Option Nat) × Nat
abbrev gS (Γ : Gm) : Int → Option Nat := Γ.2.2.1
abbrev gB (Γ : Gm) : Nat := Γ.2.2.2
def SgOk (Γ : Gm) : Prop := gS Γ 0 = none ∧ ∀ x : Int, 0 < x → gS Γ x = some (gB Γ + (x - 1).toNat)
def vlV (Γ : Gm) (v : AV) : Value := match v with
  | .inl x => .int (Int32.ofInt x)
  | .inr (.inl x) => .long (Int64.ofInt x)
  | .inr (.inr x) => va_rf (gS Γ x)
def fdV (Γ : Gm) (t : Nat) (x : Int) : Value := if t ≤ 1 then .int (Int32.ofInt x) else if t = 2 then .long (Int64.ofInt x) else va_rf (gS Γ x)
def fsV (Γ : Gm) (a : Nat) (f : Int → Int) : List Value := (List.range (nF a)).map fun j => fdV Γ (ftC a j) (f (j : Nat))
def arV (Γ : Gm) (q : Nat × Nat) (f : Int → Int) : vp_A := (q.2, if q.1 ≤ 22 then .inl (fun j => Int32.ofInt (f (j : Nat))) else if q.1 = 23 then .inr (.inl fun j => Int64.ofInt (f (j : Nat))) else .inr (.inr (.inr (.inr fun j => gS Γ (f (j : Nat))))))
def enV (Γ : Gm) (q : Nat × Nat) (f : Int → Int) : va_E := if q.1 < 13 then .inr (q.1, fsV Γ q.1 f) else .inl (Γ.2.1 q.1, arV Γ q f)
def wrl (Γ : Gm) (M : Mem) (sh : Sh) : va_W := (List.range sh.length).map fun i => (gB Γ + i, enV Γ (sh.getD i (99, 0)) (M ((i : Nat) + 1)))
theorem sh_lt {sh : Sh} {k : Int} (hk : 0 < k) {a : Nat} (ha : (shA sh k).1 = a) (h99 : a < 99) : (k - 1).toNat < sh.length := by
  by_cases h : (k - 1).toNat < sh.length
  · exact h
  · unfold shA at ha
    rw [if_pos hk, List.getD_eq_getElem?_getD, List.getElem?_eq_none (by omega)] at ha
    simp at ha
    omega
theorem wrl_len {Γ : Gm} {M : Mem} {sh : Sh} : (wrl Γ M sh).length = sh.length := by simp [wrl]
theorem wrl_get {Γ : Gm} {M : Mem} {sh : Sh} {i : Nat} (h : i < sh.length) : (wrl Γ M sh)[i]? = some (gB Γ + i, enV Γ (sh.getD i (99, 0)) (M ((i : Nat) + 1))) := by
  unfold wrl
  rw [List.getElem?_map, List.getElem?_range h]
  rfl
theorem wrl_key {Γ : Gm} {M : Mem} {sh : Sh} {i : Nat} {q : Nat × va_E} (h : (wrl Γ M sh)[i]? = some q) : i < sh.length ∧ q.1 = gB Γ + i := by
  have hl := (List.getElem?_eq_some_iff.mp h).1
  rw [wrl_len] at hl
  rw [wrl_get hl] at h
  cases h
  exact ⟨hl, rfl⟩
theorem wrl_at (Γ : Gm) (M : Mem) {sh : Sh} {k : Int} (hk : 0 < k) (hl : (k - 1).toNat < sh.length) : (wrl Γ M sh)[(k - 1).toNat]? = some (gB Γ + (k - 1).toNat, enV Γ (shA sh k) (M k)) := by
  rw [wrl_get hl]
  have e : (((k - 1).toNat : Nat) : Int) + 1 = k := by omega
  rw [e]
  unfold shA
  rw [if_pos hk]
theorem wrl_D {Γ : Gm} {M : Mem} {sh : Sh} : va_D (fun q => gB Γ ≤ q) (wrl Γ M sh) := by
  refine ⟨fun i j p q hp hq e => ?_, fun i q h => ?_⟩
  · have h1 := (wrl_key hp).2
    have h2 := (wrl_key hq).2
    omega
  · have h1 := (wrl_key h).2
    show gB Γ ≤ q.1
    omega
theorem wrl_set {Γ : Gm} {M M' : Mem} {sh : Sh} {k : Int} (hk : 0 < k) (hl : (k - 1).toNat < sh.length) (h : ∀ p, p ≠ k → M' p = M p) : (wrl Γ M sh).set (k - 1).toNat (gB Γ + (k - 1).toNat, enV Γ (shA sh k) (M' k)) = wrl Γ M' sh := by
  apply List.ext_getElem?
  intro i
  by_cases hi : i = (k - 1).toNat
  · subst hi
    rw [List.getElem?_set_self (by rw [wrl_len]; exact hl), wrl_at Γ M' hk hl]
  · rw [List.getElem?_set_ne (Ne.symm hi)]
    by_cases hq : i < sh.length
    · rw [wrl_get hq, wrl_get hq, h ((i : Nat) + 1) (by omega)]
    · rw [List.getElem?_eq_none (by rw [wrl_len]; omega), List.getElem?_eq_none (by rw [wrl_len]; omega)]
theorem wrl_push {Γ : Gm} {M M' : Mem} {sh : Sh} {q : Nat × Nat} (h : ∀ p : Int, p ≠ sh.length + 1 → M' p = M p) : wrl Γ M' (sh ++ [q]) = wrl Γ M sh ++ [(gB Γ + sh.length, enV Γ q (M' (sh.length + 1)))] := by
  apply List.ext_getElem?
  intro i
  rcases Nat.lt_trichotomy i sh.length with hi | hi | hi
  · rw [wrl_get (by rw [List.length_append]; simp; omega), List.getElem?_append_left (by rw [wrl_len]; exact hi), wrl_get hi, h ((i : Nat) + 1) (by omega)]
    rw [List.getD_eq_getElem?_getD, List.getElem?_append_left hi, ← List.getD_eq_getElem?_getD]
  · subst hi
    rw [wrl_get (by rw [List.length_append]; simp), List.getElem?_append_right (by rw [wrl_len]; exact Nat.le_refl _), wrl_len, Nat.sub_self]
    rw [List.getD_eq_getElem?_getD, List.getElem?_append_right (Nat.le_refl _), Nat.sub_self]
    rfl
  · rw [List.getElem?_eq_none (by rw [wrl_len, List.length_append]; simp; omega), List.getElem?_eq_none (by rw [List.length_append, wrl_len]; simp; omega)]
def HW (Γ : Gm) (M : Mem) (sh : Sh) (H : Heap) : Prop := va_P Γ.1 clsT (wrl Γ M sh) H ∧ H.size = gB Γ + sh.length
theorem HW.set {Γ : Gm} {M M' : Mem} {sh : Sh} {k : Int} {H H1 : Heap} (h : HW Γ M sh H) (hk : 0 < k) (hl : (k - 1).toNat < sh.length) (hM : ∀ p, p ≠ k → M' p = M p) (he : va_at Γ.1 clsT (gB Γ + (k - 1).toNat, enV Γ (shA sh k) (M' k)) H1) (z : H1.size = H.size) (oq : ∀ q : Nat, q ≠ gB Γ + (k - 1).toNat → H1[q]? = H[q]?) : HW Γ M' sh H1 :=
  ⟨by rw [← wrl_set hk hl hM]; exact h.1.set wrl_D (wrl_at Γ M hk hl) he oq, by rw [z]; exact h.2⟩
theorem HW.push {Γ : Gm} {M M' : Mem} {sh : Sh} {q : Nat × Nat} {H H1 : Heap} (h : HW Γ M sh H) (hM : ∀ p : Int, p ≠ sh.length + 1 → M' p = M p) (he : va_at Γ.1 clsT (H.size, enV Γ q (M' (sh.length + 1))) H1) (z : H1.size = H.size + 1) (oq : ∀ a : Nat, a < H.size → H1[a]? = H[a]?) : HW Γ M' (sh ++ [q]) H1 := by
  refine ⟨?_, by rw [z, h.2, List.length_append]; simp; omega⟩
  rw [wrl_push hM]
  refine (h.1.kept fun k x hx => oq x.1 ((h.1 k x hx).lt)).app fun k x hx => ?_
  have hz : k < 1 := (List.getElem?_eq_some_iff.mp hx).1
  rw [show k = 0 by omega] at hx
  cases hx
  rw [← h.2]
  exact he
/-! locals -/
theorem vl_cat (Γ : Gm) (v : AV) : (vlV Γ v).category = vw v := by
  rcases v with x | x | x
  · rfl
  · rfl
  · show (va_rf (gS Γ x)).category = 1
    cases gS Γ x <;> rfl
def lvl (Γ : Gm) (ls : Lo) : List (Nat × Value) := (List.range ls.length).filterMap fun i => match ls[i]? with
  | some (some v) => some (i, vlV Γ v)
  | _ => none
theorem lvl_mem {Γ : Gm} {ls : Lo} {q : Nat × Value} : q ∈ lvl Γ ls ↔ ∃ v, ls[q.1]? = some (some v) ∧ q.2 = vlV Γ v := by
  unfold lvl
  rw [List.mem_filterMap]
  constructor
  · rintro ⟨i, -, h⟩
    split at h
    · rename_i v hv
      cases h
      exact ⟨v, hv, rfl⟩
    · cases h
  · rintro ⟨v, hv, e⟩
    refine ⟨q.1, List.mem_range.mpr (List.getElem?_eq_some_iff.mp hv).1, ?_⟩
    rw [hv]
    simp only [Option.some.injEq]
    rw [← e]
def LR (Γ : Gm) (lsA : Array Slot) (n : Nat) (ls : Lo) : Prop := lv_has lsA n (lvl Γ ls) ∧ ls.length = n
theorem LR.at {Γ : Gm} {lsA : Array Slot} {n : Nat} {ls : Lo} (h : LR Γ lsA n ls) {i : Nat} {v : AV} (hv : ls[i]? = some (some v)) : lsA[i]? = some (.val (vlV Γ v)) := h.1.2.2 (i, vlV Γ v) (lvl_mem.mpr ⟨v, hv, rfl⟩)
theorem lv_mono {lsA : Array Slot} {n : Nat} {l l' : List (Nat × Value)} (h : lv_has lsA n l) (hl : ∀ q ∈ l', q ∈ l) : lv_has lsA n l' := ⟨h.1, h.2.1, fun q hq => h.2.2 q (hl q hq)⟩
theorem okS_lt {i : Nat} {ls : Lo} (h : okS i ls = true) : i < ls.length := by
  unfold okS at h
  rw [Bool.and_eq_true] at h
  exact Nat.blt_eq.mp h.1
theorem okS_no {i : Nat} {ls : Lo} (h : okS i ls = true) {j : Nat} (hj : j + 1 = i) {v : AV} (hv : ls[j]? = some (some v)) : vw v = 1 := by
  subst hj
  unfold okS at h
  rw [Bool.and_eq_true] at h
  have h2 := h.2
  simp only [hv] at h2
  rcases v with x | x | x
  · rfl
  · cases h2
  · rfl
theorem LR.store1 {Γ : Gm} {lsA ls' : Array Slot} {n i : Nat} {ls : Lo} {v : AV} (h : LR Γ lsA n ls) (hi : okS i ls = true) (h' : lv_has ls' n ((i, vlV Γ v) :: (lvl Γ ls).filter (fun q => !(q.1 == i) && !(q.1 + 1 == i && q.2.category == 2)))) : LR Γ ls' n (ls.set i (some v)) := by
  refine ⟨lv_mono h' fun q hq => ?_, by rw [List.length_set]; exact h.2⟩
  obtain ⟨w, hw, e⟩ := lvl_mem.mp hq
  by_cases hqi : q.1 = i
  · rw [hqi, List.getElem?_set_self (okS_lt hi)] at hw
    cases hw
    rw [← hqi, ← e]
    exact List.mem_cons_self
  · rw [List.getElem?_set_ne (Ne.symm hqi)] at hw
    refine List.mem_cons_of_mem _ (List.mem_filter.mpr ⟨lvl_mem.mpr ⟨w, hw, e⟩, ?_⟩)
    by_cases hq1 : q.1 + 1 = i
    · have hc := okS_no hi hq1 hw
      simp [hqi, hq1, e, vl_cat, hc]
    · simp [hqi, hq1]
theorem LR.store2 {Γ : Gm} {lsA ls' : Array Slot} {n i : Nat} {ls : Lo} {x : Int} (h : LR Γ lsA n ls) (hi : okS i ls = true) (hi2 : i + 1 < ls.length) (h' : lv_has ls' n ((i, .long (Int64.ofInt x)) :: (lvl Γ ls).filter (fun q => !(q.1 == i) && (!(q.1 == i + 1) && !(q.1 + 1 == i && q.2.category == 2))))) : LR Γ ls' n ((ls.set i (some (vL x))).set (i + 1) none) := by
  refine ⟨lv_mono h' fun q hq => ?_, by rw [List.length_set, List.length_set]; exact h.2⟩
  obtain ⟨w, hw, e⟩ := lvl_mem.mp hq
  by_cases hq2 : q.1 = i + 1
  · rw [hq2, List.getElem?_set_self (by rw [List.length_set]; exact hi2)] at hw
    cases hw
  rw [List.getElem?_set_ne (Ne.symm hq2)] at hw
  by_cases hqi : q.1 = i
  · rw [hqi, List.getElem?_set_self (okS_lt hi)] at hw
    cases hw
    have e2 : q = (i, .long (Int64.ofInt x)) := by rw [← hqi]; exact Prod.ext rfl e
    rw [e2]
    exact List.mem_cons_self
  · rw [List.getElem?_set_ne (Ne.symm hqi)] at hw
    refine List.mem_cons_of_mem _ (List.mem_filter.mpr ⟨lvl_mem.mpr ⟨w, hw, e⟩, ?_⟩)
    by_cases hq1 : q.1 + 1 = i
    · have hc := okS_no hi hq1 hw
      simp [hqi, hq2, hq1, e, vl_cat, hc]
    · simp [hqi, hq2, hq1]
theorem pad_len (Γ : Gm) : ∀ as : List AV, (lg_sl (as.map (vlV Γ))).length = (padL as).length
  | [] => rfl
  | v :: l => by
    have ih := pad_len Γ l
    unfold lg_sl at ih ⊢
    rw [List.map_cons, List.flatMap_cons, List.length_append, ih, vl_cat]
    rcases v with x | x | x
    · simp [vw, padL]; omega
    · simp [vw, padL]; omega
    · simp [vw, padL]; omega
theorem pad_mem (Γ : Gm) : ∀ (as : List AV) (o i : Nat) (v : AV), (padL as)[i]? = some (some v) → (o + i, vlV Γ v) ∈ lv_args o (as.map (vlV Γ))
  | [], _, i, v, h => by simp [padL] at h
  | w :: l, o, i, v, h => by
    rw [List.map_cons]
    unfold lv_args
    rw [vl_cat]
    rcases w with x | x | x
    · cases i with
      | zero =>
        simp [padL] at h
        subst h
        exact List.mem_cons_self
      | succ i =>
        simp only [padL, List.getElem?_cons_succ] at h
        have := pad_mem Γ l (o + 1) i v h
        rw [show o + 1 + i = o + (i + 1) by omega] at this
        exact List.mem_cons_of_mem _ this
    · match i with
      | 0 =>
        simp [padL] at h
        subst h
        exact List.mem_cons_self
      | 1 => simp [padL] at h
      | i + 2 =>
        simp only [padL, List.getElem?_cons_succ] at h
        have := pad_mem Γ l (o + 2) i v h
        rw [show o + 2 + i = o + (i + 2) by omega] at this
        exact List.mem_cons_of_mem _ this
    · cases i with
      | zero =>
        simp [padL] at h
        subst h
        exact List.mem_cons_self
      | succ i =>
        simp only [padL, List.getElem?_cons_succ] at h
        have := pad_mem Γ l (o + 1) i v h
        rw [show o + 1 + i = o + (i + 1) by omega] at this
        exact List.mem_cons_of_mem _ this
theorem LR.entry {Γ : Gm} {as : List AV} {z : Nat} (h : (padL as).length ≤ mxL z) : LR Γ ((lg_sl (as.map (vlV Γ)) ++ List.replicate (mxL z - (lg_sl (as.map (vlV Γ))).length) Slot.unset).toArray) (mxL z) (entL z as) := by
  have h0 := lv_entry (as.map (vlV Γ)) (n := mxL z) (by rw [pad_len]; exact h)
  refine ⟨lv_mono h0 fun q hq => ?_, by unfold entL; rw [List.length_append, List.length_replicate]; omega⟩
  obtain ⟨w, hw, e⟩ := lvl_mem.mp hq
  unfold entL at hw
  by_cases hl : q.1 < (padL as).length
  · rw [List.getElem?_append_left hl] at hw
    have h1 := pad_mem Γ as 0 q.1 w hw
    rw [Nat.zero_add, ← e] at h1
    exact h1
  · rw [List.getElem?_append_right (by omega)] at hw
    have h2 := List.mem_of_getElem? hw
    have h3 := List.eq_of_mem_replicate h2
    cases h3
theorem wsum_eq (Γ : Gm) : ∀ st : List AV, ((st.map (vlV Γ)).map fun v => v.category).sum = wsum st
  | [] => rfl
  | v :: l => by
    rw [List.map_cons, List.map_cons, List.sum_cons, wsum_eq Γ l, vl_cat]
    rfl
