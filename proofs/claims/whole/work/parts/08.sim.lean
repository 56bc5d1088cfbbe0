/-! THE STEPS, part one: the bond between the small machine and the real one, and what each instruction of the small machine needs. -/
abbrev Em : Type := (Nat → Nat) × (Nat → Nat) × Nat × Nat × (Nat → Int32)
def ASet (Γ : Gm) : Nat → Prop := fun q => gB Γ ≤ q
def tysG (Γ : Gm) : List (ClassId × FieldType) := [(Γ.2.1 20, .int), (Γ.2.1 21, .byte), (Γ.2.1 22, .boolean), (Γ.2.1 23, .long), (Γ.2.1 24, .object RX5), (Γ.2.1 25, .array .long), (Γ.2.1 26, .array .int)]
def stV (e : String × String × String × Int) : Value := if e.2.2.1 = "J" then .long (Int64.ofInt e.2.2.2) else .int (Int32.ofInt e.2.2.2)
def strB32 : List (List Int32) := strT.map fun l => l.map Int32.ofInt
def va_AOt (t : FieldType) (U : State) : Prop := (Cond.arrayOver t).before #[] U = true
def NestOk (U : State) : Prop := ∀ e ∈ metT, e.2.2.2.1 ≠ 0 → va_Nw (.methodLinkNest (onN e.1) e.2.1 (nmY e.2.2.1) nestH) U
def EnvOk (Γ : Gm) (E : Em) (U : State) (H : Heap) : Prop :=
  va_K Γ.1 clsT (tysG Γ) U ∧ (∀ e ∈ stT, va_Z e.1 e.2.1 e.2.2.1 (stV e) (ASet Γ) U H) ∧
  va_Z "jdk/internal/util/Preconditions" "SIOOBE_FORMATTER" "Ljava/util/function/BiFunction;" (va_rf (gS Γ (-1000))) (ASet Γ) U H ∧
  vk_S 18 (strT.map List.length) strB32 E.1 E.2.1 (ASet Γ) U H ∧ (∀ e ∈ srT, vk_R (onN e.1) e.2.1 (strN.getD e.2.2 "") (E.1 e.2.2) U) ∧ va_X E.2.2.1 E.2.2.2.1 E.2.2.2.2 U H ∧ NestOk U ∧ va_AO RX5 U ∧ va_AOt (.array .long) U ∧ va_AOt (.array .int) U
def GmOk (Γ : Gm) (E : Em) : Prop := SgOk Γ ∧ (∀ i : Nat, i < 18 → gS Γ (-1 - (i : Int)) = some (E.1 i)) ∧ (∀ i : Nat, i < 18 → gS Γ (-101 - (i : Int)) = some (E.2.1 i)) ∧ gS Γ (-2000) = some E.2.2.1 ∧ E.2.2.1 < gB Γ ∧ E.2.2.2.1 ≤ 3072 ∧ ∀ x : Int, x ≠ 0 → x ≠ -1000 → ∃ a, gS Γ x = some a
def SX (E : Em) (M : Mem) : Prop := M (-2000) (-1) = E.2.2.2.1 ∧ ∀ j : Nat, j < E.2.2.2.1 → M (-2000) j = (E.2.2.2.2 j).toInt
def ShOk (sh : Sh) : Prop := ∀ q ∈ sh, q.2 ≤ 10000 ∧ (q.1 < 13 ∨ 20 ≤ q.1 ∧ q.1 ≤ 26)
def HX (Γ : Gm) (E : Em) (M : Mem) (sh : Sh) (H : Heap) : Prop := HW Γ M sh H ∧ SX E M ∧ ShOk sh
def lw_good : List Cond := lw_tbl.filter goodWord
theorem good_in {w : Cond} (h1 : w ∈ lw_tbl) (h2 : goodWord w = true) : w ∈ lw_good := List.mem_filter.mpr ⟨h1, h2⟩
theorem mb_in {pos : Nat} {w : Cond} (h : mb pos w = true) : w ∈ lw_good := by
  unfold mb at h
  rw [Bool.and_eq_true, decide_eq_true_eq] at h
  exact good_in (List.mem_of_getElem? h.1) h.2
def Cx (p : Program) (R : Room) (s : State) (m : MethodId) (args : Array Value) (meth : Method) (c : Code) (Γ : Gm) (E : Em) (y : Nat) : Prop :=
  p.tables.exec = Jvm.exec ∧ c.code = bcY y ∧ c.maxLocals = mxL y ∧ s.vm.findClass (onN (oxY y)) = some m.cls ∧ (∀ w ∈ lw_good, w.before args s = true) ∧ EnvOk Γ E s s.heap ∧ GmOk Γ E ∧ gB Γ ≤ s.heap.size ∧
  meth.sig.returnType = rtY y ∧ meth.locks = false ∧ (frT.getD y (0, 0)).1 ≤ R.frames ∧ (frT.getD y (0, 0)).2 ≤ R.locals ∧ (isIni y = true → meth.name = "<init>")
theorem sh_pos {sh : Sh} {k : Int} {a : Nat} (ha : (shA sh k).1 = a) (h1 : a ≠ 40) (h2 : a ≠ 41) (h3 : a ≠ 99) : 0 < k := by
  by_cases h : 0 < k
  · exact h
  · unfold shA at ha
    rw [if_neg h] at ha
    split at ha
    · exact absurd ha.symm h1
    · split at ha
      · exact absurd ha.symm h2
      · exact absurd ha.symm h3
theorem sh_len {sh : Sh} (h : ShOk sh) {k : Int} (hk : 0 < k) : (shA sh k).2 ≤ 10000 := by
  unfold shA
  rw [if_pos hk, List.getD_eq_getElem?_getD]
  cases hq : sh[(k - 1).toNat]? with
  | none => simp
  | some q => exact (h q (List.mem_of_getElem? hq)).1
theorem sh_kind {sh : Sh} (h : ShOk sh) {k : Int} (hk : 0 < k) : (shA sh k).1 < 13 ∨ (20 ≤ (shA sh k).1 ∧ (shA sh k).1 ≤ 26) ∨ (shA sh k).1 = 99 := by
  unfold shA
  rw [if_pos hk, List.getD_eq_getElem?_getD]
  cases hq : sh[(k - 1).toNat]? with
  | none => exact Or.inr (Or.inr rfl)
  | some q =>
    rcases (h q (List.mem_of_getElem? hq)).2 with h1 | h1
    · exact Or.inl h1
    · exact Or.inr (Or.inl h1)
theorem sh_40 {sh : Sh} (h : ShOk sh) {k : Int} (hk : (shA sh k).1 = 40) : ∃ i : Nat, i < 18 ∧ k = -1 - (i : Int) := by
  by_cases hp : 0 < k
  · have := sh_kind h hp
    omega
  · unfold shA at hk
    rw [if_neg hp] at hk
    split at hk
    · exact ⟨(-1 - k).toNat, by omega, by omega⟩
    · split at hk <;> cases hk
theorem sh_41 {sh : Sh} (h : ShOk sh) {k : Int} (hk : (shA sh k).1 = 41) : ∃ i : Nat, i < 18 ∧ k = -101 - (i : Int) ∧ (shA sh k).2 = (strT.getD i []).length := by
  by_cases hp : 0 < k
  · have := sh_kind h hp
    omega
  · unfold shA at hk ⊢
    rw [if_neg hp] at hk ⊢
    split at hk
    · cases hk
    · rename_i h1
      rw [if_neg h1]
      split at hk
      · rename_i h2
        rw [if_pos h2]
        refine ⟨(-101 - k).toNat, by omega, by omega, rfl⟩
      · cases hk
theorem en_o {Γ : Gm} {f : Int → Int} {q : Nat × Nat} (h : q.1 < 13) : enV Γ q f = .inr (q.1, fsV Γ q.1 f) := if_pos h
theorem en_i {Γ : Gm} {f : Int → Int} {q : Nat × Nat} (h : q.1 = 20) : enV Γ q f = .inl (Γ.2.1 20, q.2, .inl fun j => Int32.ofInt (f (j : Nat))) := by
  obtain ⟨a, n⟩ := q
  cases h
  rfl
theorem en_b {Γ : Gm} {f : Int → Int} {q : Nat × Nat} (h : q.1 = 21) : enV Γ q f = .inl (Γ.2.1 21, q.2, .inl fun j => Int32.ofInt (f (j : Nat))) := by
  obtain ⟨a, n⟩ := q
  cases h
  rfl
theorem en_z {Γ : Gm} {f : Int → Int} {q : Nat × Nat} (h : q.1 = 22) : enV Γ q f = .inl (Γ.2.1 22, q.2, .inl fun j => Int32.ofInt (f (j : Nat))) := by
  obtain ⟨a, n⟩ := q
  cases h
  rfl
theorem en_l {Γ : Gm} {f : Int → Int} {q : Nat × Nat} (h : q.1 = 23) : enV Γ q f = .inl (Γ.2.1 23, q.2, .inr (.inl fun j => Int64.ofInt (f (j : Nat)))) := by
  obtain ⟨a, n⟩ := q
  cases h
  rfl
theorem en_r {Γ : Gm} {f : Int → Int} {q : Nat × Nat} (h : q.1 = 24) : enV Γ q f = .inl (Γ.2.1 24, q.2, .inr (.inr (.inr (.inr fun j => gS Γ (f (j : Nat)))))) := by
  obtain ⟨a, n⟩ := q
  cases h
  rfl
theorem en_rl {Γ : Gm} {f : Int → Int} {q : Nat × Nat} (h : q.1 = 25) : enV Γ q f = .inl (Γ.2.1 25, q.2, .inr (.inr (.inr (.inr fun j => gS Γ (f (j : Nat)))))) := by
  obtain ⟨a, n⟩ := q
  cases h
  rfl
theorem en_ri {Γ : Gm} {f : Int → Int} {q : Nat × Nat} (h : q.1 = 26) : enV Γ q f = .inl (Γ.2.1 26, q.2, .inr (.inr (.inr (.inr fun j => gS Γ (f (j : Nat)))))) := by
  obtain ⟨a, n⟩ := q
  cases h
  rfl
theorem gS_pos {Γ : Gm} {E : Em} (h : GmOk Γ E) {x : Int} (hx : 0 < x) : gS Γ x = some (gB Γ + (x - 1).toNat) := h.1.2 x hx
theorem gS_0 {Γ : Gm} {E : Em} (h : GmOk Γ E) : gS Γ 0 = none := h.1.1
theorem sh_own {sh : Sh} {k : Int} (h : 0 < k ∨ ((shA sh k).1 ≠ 40 ∧ (shA sh k).1 ≠ 41 ∧ (shA sh k).1 ≠ 99)) : 0 < k := by
  rcases h with h | ⟨h1, h2, h3⟩
  · exact h
  · exact sh_pos rfl h1 h2 h3
theorem SX.up {E : Em} {M : Mem} {k j v : Int} (h : SX E M) (hk : 0 < k) : SX E (upM M k j v) := by
  unfold SX upM at *
  refine ⟨?_, fun i hi => ?_⟩
  · rw [if_neg (by omega)]; exact h.1
  · rw [if_neg (by omega)]; exact h.2 i hi
theorem SX.ze {E : Em} {M : Mem} {k : Int} (h : SX E M) (hk : 0 < k) : SX E (zeM M k) := by
  unfold SX zeM at *
  refine ⟨?_, fun i hi => ?_⟩
  · rw [if_neg (by omega)]; exact h.1
  · rw [if_neg (by omega)]; exact h.2 i hi
/-- the real machine goes from here to the end that Q tells -/
def SW (p : Program) (l : Launch) (e : Env) (R : Room) (s : State) (m : MethodId) (args : Array Value) (below : List Frame) (meth : Method) (c : Code) (Γ : Gm) (E : Em) (y n0 k0 : Nat) (Q : State → Prop) (pc : Nat) (ls : Lo) (st : List AV) (M : Mem) (sh : Sh) : Prop :=
  ∀ (H : Heap) (locs : List Loc) (lsA : Array Slot), HX Γ E M sh H → va_S (ASet Γ) s.heap H locs → LR Γ lsA (mxL y) ls → W p l e R s m args below meth c H locs (sh.length - n0) (slotsOf sh - k0) Q (F0 m pc lsA (st.map (vlV Γ)))
