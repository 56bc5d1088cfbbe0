/-! WHAT A CALL CAN REACH: a run whose references lie in cells lo .. hi writes there alone. -/
/-- the fields that hold references, by kind -/
def rfT : List (List Int) := [[0, 1, 2, 3], [0, 1, 2, 3, 4, 5, 6], [0, 1, 2, 3, 4], [0, 1, 2], [0, 1, 2, 3, 4], [0], [0, 1, 2, 3, 4, 5], [0, 1, 2], [0, 1, 2, 3], [0], [0, 1], [0, 1, 2, 3, 4, 5, 6, 7, 8], mpT.map fun q => q.1]
def rfF (c : Nat) (b : Int) : Bool := (rfT.getD c []).contains b
def sepI (i : Ins) : Bool := match i.1 with
  | 4 => decide (i.2.1 ≤ 0)
  | 52 => rfF i.2.1.toNat i.2.2.1
  | 53 => Nat.blt i.2.1.toNat 13 && !rfF i.2.1.toNat i.2.2.1
  | 54 => Nat.blt i.2.1.toNat 13 && !rfF i.2.1.toNat i.2.2.1
  | 55 => rfF i.2.1.toNat i.2.2.1
  | 56 => Nat.blt i.2.1.toNat 13 && !rfF i.2.1.toNat i.2.2.1
  | 71 => false
  | 72 => false
  | 73 => false
  | 74 => false
  | 80 => !isIni i.2.1.toNat && Nat.blt i.2.1.toNat 298
  | 81 => false
  | 82 => !isIni i.2.1.toNat && Nat.blt i.2.1.toNat 298
  | _ => true
theorem sep_ok : ((List.range 298).all fun y => isIni y || (tbl y).all fun e => sepI e.2) = true := by decide +kernel
theorem sep_at {y pc : Nat} {i : Ins} (hy : y < 298) (hi : isIni y = false) (h : cd y pc = some i) : sepI i = true := by
  have := List.all_eq_true.mp sep_ok y (List.mem_range.mpr hy)
  rw [hi, Bool.false_or] at this
  exact List.all_eq_true.mp this _ (cd_mem h)
theorem sh_no40 : (SH.all fun e => !(e.1 == 40)) = true := by decide +kernel
section SP
variable {lo hi : Int} {M M' : Mem} {ls ls' : Lo} {st st' : List AV} {v : AV}
def OKr (lo hi k : Int) : Prop := k ≤ 0 ∨ (lo ≤ k ∧ k ≤ hi)
def RfA (lo hi : Int) : AV → Prop
  | .inr (.inr k) => OKr lo hi k
  | _ => True
def RfL (lo hi : Int) (ls : Lo) : Prop := ∀ v, some v ∈ ls → RfA lo hi v
def RfS (lo hi : Int) (st : List AV) : Prop := ∀ v ∈ st, RfA lo hi v
def isRf (k j : Int) : Prop := rfF (shA SH k).1 j = true ∨ (((shA SH k).1 = 24 ∨ (shA SH k).1 = 25 ∨ (shA SH k).1 = 26) ∧ 0 ≤ j ∧ j < (shA SH k).2)
def RfM (lo hi : Int) (M : Mem) : Prop := ∀ k : Int, lo ≤ k → k ≤ hi → ∀ j, isRf k j → OKr lo hi (M k j)
def Kep (lo hi : Int) (M M' : Mem) : Prop := ∀ k : Int, ¬ (lo ≤ k ∧ k ≤ hi) → M' k = M k
def SepN (lo hi : Int) (M : Mem) : Option Nx → Prop
  | some (.inl q) => q.2.2.2.2 = SH ∧ RfL lo hi q.2.1 ∧ RfS lo hi q.2.2.1 ∧ RfM lo hi q.2.2.2.1 ∧ Kep lo hi M q.2.2.2.1
  | some (.inr (.inl c)) => RfS lo hi c.2.1 ∧ RfS lo hi c.2.2.2 ∧ isIni c.1 = false ∧ c.1 < 298
  | some (.inr (.inr w)) => RfA lo hi w
  | none => True
theorem SepN.no : SepN lo hi M none := trivial
theorem Kep.rf : Kep lo hi M M := fun _ _ => rfl
theorem SepN.go {pc : Nat} (h1 : RfL lo hi ls) (h2 : RfS lo hi st) (h3 : RfM lo hi M') (h4 : Kep lo hi M M') : SepN lo hi M (goN pc ls st M' SH) := ⟨rfl, h1, h2, h3, h4⟩
theorem SepN.kp {pc : Nat} (h1 : RfL lo hi ls) (h2 : RfS lo hi st) (h3 : RfM lo hi M) : SepN lo hi M (goN pc ls st M SH) := ⟨rfl, h1, h2, h3, Kep.rf⟩
theorem RfS_c : RfS lo hi (v :: st) ↔ RfA lo hi v ∧ RfS lo hi st := by
  unfold RfS
  constructor
  · intro h
    exact ⟨h v List.mem_cons_self, fun w hw => h w (List.mem_cons_of_mem _ hw)⟩
  · intro ⟨h1, h2⟩ w hw
    rcases List.mem_cons.mp hw with rfl | hw
    · exact h1
    · exact h2 w hw
theorem RfS.nil : RfS lo hi [] := fun _ h => absurd h List.not_mem_nil
theorem RfL.set {i : Nat} {o : Option AV} (h : RfL lo hi ls) (ho : ∀ v, o = some v → RfA lo hi v) : RfL lo hi (ls.set i o) := fun v hv => by
  rcases List.mem_or_eq_of_mem_set hv with z | z
  · exact h v z
  · exact ho v z.symm
theorem exA_sep {op : Nat} {a b : Int} {nx : Nat} (g : op = 4 → a ≤ 0) (h1 : RfL lo hi ls) (h2 : RfS lo hi st) (h3 : RfM lo hi M) : SepN lo hi M (exA op a b nx ls st M SH) := by
  unfold exA
  split
  · exact SepN.kp h1 (RfS_c.mpr ⟨trivial, h2⟩) h3
  · exact SepN.kp h1 (RfS_c.mpr ⟨trivial, h2⟩) h3
  · exact SepN.kp h1 (RfS_c.mpr ⟨Or.inl (Int.le_refl 0), h2⟩) h3
  · exact SepN.kp h1 (RfS_c.mpr ⟨Or.inl (g rfl), h2⟩) h3
  · split
    · exact SepN.kp h1 (RfS_c.mpr ⟨trivial, h2⟩) h3
    · exact SepN.no
  · split
    · exact SepN.kp h1 (RfS_c.mpr ⟨trivial, h2⟩) h3
    · exact SepN.no
  · split
    · rename_i x e
      exact SepN.kp h1 (RfS_c.mpr ⟨h1 _ (List.mem_of_getElem? e), h2⟩) h3
    · exact SepN.no
  · split
    · rename_i x st'
      split
      · exact SepN.kp (h1.set (fun v e => by cases e; trivial)) (RfS_c.mp h2).2 h3
      · exact SepN.no
    · exact SepN.no
  · split
    · rename_i x st'
      split
      · exact SepN.kp ((h1.set (fun v e => by cases e; trivial)).set (fun v e => by cases e)) (RfS_c.mp h2).2 h3
      · exact SepN.no
    · exact SepN.no
  · split
    · rename_i x st'
      split
      · exact SepN.kp (h1.set (fun v e => by cases e; exact (RfS_c.mp h2).1)) (RfS_c.mp h2).2 h3
      · exact SepN.no
    · exact SepN.no
  · split
    · split
      · exact SepN.kp (h1.set (fun v e => by cases e; trivial)) h2 h3
      · exact SepN.no
    · exact SepN.no
  · split
    · split
      · exact SepN.kp h1 (RfS_c.mp h2).2 h3
      · exact SepN.no
    · exact SepN.no
  · split
    · split
      · exact SepN.kp h1 (RfS_c.mpr ⟨(RfS_c.mp h2).1, h2⟩) h3
      · exact SepN.no
    · exact SepN.no
  · split
    · rename_i u w st'
      have h := RfS_c.mp h2
      have h' := RfS_c.mp h.2
      split
      · exact SepN.kp h1 (RfS_c.mpr ⟨h.1, RfS_c.mpr ⟨h'.1, h2⟩⟩) h3
      · exact SepN.no
    · exact SepN.no
  · exact SepN.no
theorem sp_bind {nx : Nat} {o : Option AV} (ho : ∀ w, o = some w → RfA lo hi w) (h1 : RfL lo hi ls) (h2 : RfS lo hi st) (h3 : RfM lo hi M) : SepN lo hi M (o.bind fun w => goN nx ls (w :: st) M SH) := by
  cases o with
  | none => exact SepN.no
  | some w => exact SepN.kp h1 (RfS_c.mpr ⟨ho w rfl, h2⟩) h3
theorem sp_2 {op : Nat} {x y : Int} {w : AV} (h : ex2 op x y = some w) : RfA lo hi w := by
  unfold ex2 at h
  split at h
  all_goals first
    | (cases h; done)
    | (cases h; trivial)
    | (split at h <;> first | (cases h; done) | (cases h; trivial))
theorem sp_L {op : Nat} {x y : Int} {w : AV} (h : exL op x y = some w) : RfA lo hi w := by
  unfold exL at h
  split at h
  all_goals first
    | (cases h; done)
    | (cases h; trivial)
    | (split at h <;> first | (cases h; done) | (cases h; trivial))
theorem sp_LS {op : Nat} {x y : Int} {w : AV} (h : exLS op x y = some w) : RfA lo hi w := by
  unfold exLS at h
  split at h
  all_goals first
    | (cases h; done)
    | (cases h; trivial)
    | (split at h <;> first | (cases h; done) | (cases h; trivial))
theorem sp_1 {op : Nat} {x w : AV} (h : ex1 op x = some w) : RfA lo hi w := by
  unfold ex1 at h
  split at h
  all_goals first
    | (cases h; done)
    | (cases h; trivial)
theorem exB_sep {op nx : Nat} (h1 : RfL lo hi ls) (h2 : RfS lo hi st) (h3 : RfM lo hi M) : SepN lo hi M (exB op nx ls st M SH) := by
  unfold exB
  split
  · split
    · exact sp_bind (fun w e => sp_1 e) h1 (RfS_c.mp h2).2 h3
    · exact SepN.no
  · split
    · split
      · exact sp_bind (fun w e => sp_2 e) h1 (RfS_c.mp (RfS_c.mp h2).2).2 h3
      · exact SepN.no
    · split
      · split
        · exact sp_bind (fun w e => sp_LS e) h1 (RfS_c.mp (RfS_c.mp h2).2).2 h3
        · exact SepN.no
      · split
        · exact sp_bind (fun w e => sp_L e) h1 (RfS_c.mp (RfS_c.mp h2).2).2 h3
        · exact SepN.no
theorem exC_sep {sw : List (Int × Nat)} {op : Nat} {a b : Int} {nx : Nat} (h1 : RfL lo hi ls) (h2 : RfS lo hi st) (h3 : RfM lo hi M) : SepN lo hi M (exC sw op a b nx ls st M SH) := by
  unfold exC
  split
  · split
    · split
      · exact SepN.kp h1 (RfS_c.mp h2).2 h3
      · exact SepN.no
    · exact SepN.no
  · split
    · split
      · exact SepN.kp h1 (RfS_c.mp (RfS_c.mp h2).2).2 h3
      · exact SepN.kp h1 (RfS_c.mp (RfS_c.mp h2).2).2 h3
    · exact SepN.no
  · split
    · split
      · exact SepN.kp h1 (RfS_c.mp h2).2 h3
      · exact SepN.no
    · exact SepN.no
  · split
    · split
      · exact SepN.kp h1 (RfS_c.mp h2).2 h3
      · exact SepN.no
    · exact SepN.no
  · exact SepN.kp h1 h2 h3
  · split
    · split
      · exact SepN.kp h1 (RfS_c.mp h2).2 h3
      · exact SepN.no
    · exact SepN.no
  · exact SepN.no
theorem okr_in {k : Int} (h : OKr lo hi k) (h0 : 0 < k) : lo ≤ k ∧ k ≤ hi := by
  rcases h with h | h
  · omega
  · exact h
theorem kep_up {k j v : Int} (h : lo ≤ k ∧ k ≤ hi) : Kep lo hi M (upM M k j v) := fun a ha => funext fun b => if_neg (fun z => ha (by rw [z.1]; exact h))
theorem rfm_up {k j v : Int} (h : RfM lo hi M) (hn : ¬ isRf k j ∨ OKr lo hi v) : RfM lo hi (upM M k j v) := fun a h1 h2 b hb => by
  unfold upM
  by_cases q : a = k ∧ b = j
  · rw [if_pos q]
    rcases hn with z | z
    · rw [q.1, q.2] at hb
      exact absurd hb z
    · exact z
  · rw [if_neg q]
    exact h a h1 h2 b hb
theorem rfF_b {c : Nat} {b : Int} (h : rfF c b = true) : c < 13 := by
  by_cases q : c < 13
  · exact q
  · unfold rfF at h
    rw [List.getD_eq_getElem?_getD, List.getElem?_eq_none (by show 13 ≤ c; omega)] at h
    cases h
theorem nrf {k j : Int} {c : Nat} (e : (shA SH k).1 = c) (hc : c ≠ 24 ∧ c ≠ 25 ∧ c ≠ 26) (h : rfF c j = false) : ¬ isRf k j := fun z => by
  unfold isRf at z
  rw [e] at z
  rcases z with z | z
  · rw [h] at z; cases z
  · omega
theorem nrfa {k j : Int} {c : Nat} (e : (shA SH k).1 = c) (hc : 13 ≤ c ∧ c ≠ 24 ∧ c ≠ 25 ∧ c ≠ 26) : ¬ isRf k j := nrf e hc.2 (by
  cases h : rfF c j
  · rfl
  · have := rfF_b h; omega)
theorem sh40n {k : Int} (h : (shA SH k).1 = 40) : k ≤ 0 := by
  by_cases q : 0 < k
  · unfold shA at h
    rw [if_pos q, List.getD_eq_getElem?_getD] at h
    cases e : SH[(k - 1).toNat]? with
    | none => rw [e] at h; cases h
    | some w =>
      rw [e] at h
      have := List.all_eq_true.mp sh_no40 w (List.mem_of_getElem? e)
      replace h : w.1 = 40 := h
      rw [h] at this
      cases this
  · omega
theorem exD_sep {y op : Nat} {a b : Int} {nx : Nat} (hlo : 0 < lo) (hy : y ≠ LAWN) (g : sepI (op, a, b, nx) = true) (h1 : RfL lo hi ls) (h2 : RfS lo hi st) (h3 : RfM lo hi M) : SepN lo hi M (exD y op a b nx ls st M SH) := by
  have arr : ∀ {k : Int} {c : Nat}, (shA SH k).1 = c → 20 ≤ c → c ≤ 26 → 0 < k := fun e a b => sh_pos e (by omega) (by omega) (by omega)
  unfold exD
  split
  · exact SepN.kp h1 (RfS_c.mpr ⟨Or.inl (show (-1000 : Int) ≤ 0 by decide), h2⟩) h3
  · split
    · split
      · exact SepN.kp h1 (RfS_c.mpr ⟨trivial, (RfS_c.mp h2).2⟩) h3
      · exact SepN.no
    · exact SepN.no
  · split
    · split
      · exact SepN.kp h1 (RfS_c.mpr ⟨trivial, (RfS_c.mp h2).2⟩) h3
      · exact SepN.no
    · exact SepN.no
  · split
    · rename_i k st'
      split
      · rename_i hg
        obtain ⟨k1, k2⟩ := okr_in (RfS_c.mp h2).1 hg.1
        exact SepN.kp h1 (RfS_c.mpr ⟨h3 k k1 k2 b (Or.inl (by rw [hg.2]; exact g)), (RfS_c.mp h2).2⟩) h3
      · exact SepN.no
    · exact SepN.no
  · split
    · rename_i v k st'
      have s := RfS_c.mp (RfS_c.mp h2).2
      split
      · rename_i hg
        have g : (Nat.blt a.toNat 13 && !rfF a.toNat b) = true := g
        rw [Bool.and_eq_true, Nat.blt_eq, Bool.not_eq_true'] at g
        exact SepN.go h1 s.2 (rfm_up h3 (Or.inl (nrf hg.2 (by omega) g.2))) (kep_up (okr_in s.1 hg.1))
      · exact SepN.no
    · exact SepN.no
  · split
    · rename_i v k st'
      have s := RfS_c.mp (RfS_c.mp h2).2
      split
      · rename_i hg
        have g : (Nat.blt a.toNat 13 && !rfF a.toNat b) = true := g
        rw [Bool.and_eq_true, Nat.blt_eq, Bool.not_eq_true'] at g
        exact SepN.go h1 s.2 (rfm_up h3 (Or.inl (nrf hg.2 (by omega) g.2))) (kep_up (okr_in s.1 hg.1))
      · exact SepN.no
    · exact SepN.no
  · split
    · rename_i v k st'
      have s0 := RfS_c.mp h2
      have s := RfS_c.mp s0.2
      split
      · rename_i hg
        exact SepN.go h1 s.2 (rfm_up h3 (Or.inr s0.1)) (kep_up (okr_in s.1 hg.1))
      · exact SepN.no
    · exact SepN.no
  · split
    · rename_i v k st'
      have s := RfS_c.mp (RfS_c.mp h2).2
      split
      · rename_i hg
        have g : (Nat.blt a.toNat 13 && !rfF a.toNat b) = true := g
        rw [Bool.and_eq_true, Nat.blt_eq, Bool.not_eq_true'] at g
        exact SepN.go h1 s.2 (rfm_up h3 (Or.inl (nrf hg.2.1 (by omega) g.2))) (kep_up (okr_in s.1 hg.1))
      · exact SepN.no
    · exact SepN.no
  · split
    · rename_i k st'
      split
      · rename_i hg
        have := sh40n hg
        refine SepN.kp h1 (RfS_c.mpr ⟨?_, (RfS_c.mp h2).2⟩) h3
        split
        · exact Or.inl (by omega)
        · trivial
      · exact SepN.no
    · exact SepN.no
  · exact SepN.kp h1 (RfS_c.mpr ⟨trivial, h2⟩) h3
  · exact SepN.kp h1 (RfS_c.mpr ⟨trivial, h2⟩) h3
  · split
    · rename_i k st'
      split
      · exact SepN.no
      · split
        · exact SepN.kp h1 (RfS_c.mpr ⟨trivial, (RfS_c.mp h2).2⟩) h3
        · exact SepN.no
    · exact SepN.no
  · split
    · rename_i i k st'
      split
      · split
        · exact SepN.kp h1 (RfS_c.mpr ⟨trivial, (RfS_c.mp (RfS_c.mp h2).2).2⟩) h3
        · exact SepN.no
      · split
        · exact SepN.kp h1 (RfS_c.mpr ⟨trivial, (RfS_c.mp (RfS_c.mp h2).2).2⟩) h3
        · exact SepN.no
    · exact SepN.no
  · split
    · rename_i v i k st'
      have s := RfS_c.mp (RfS_c.mp (RfS_c.mp h2).2).2
      split
      · rename_i hg
        exact SepN.go h1 s.2 (rfm_up h3 (Or.inl (nrfa hg.1 (by decide)))) (kep_up (okr_in s.1 (arr hg.1 (by decide) (by decide))))
      · exact SepN.no
    · exact SepN.no
  · split
    · rename_i i k st'
      split
      · exact SepN.kp h1 (RfS_c.mpr ⟨trivial, (RfS_c.mp (RfS_c.mp h2).2).2⟩) h3
      · split
        · exact SepN.kp h1 (RfS_c.mpr ⟨trivial, (RfS_c.mp (RfS_c.mp h2).2).2⟩) h3
        · exact SepN.no
    · exact SepN.no
  · split
    · rename_i v i k st'
      have s := RfS_c.mp (RfS_c.mp (RfS_c.mp h2).2).2
      split
      · rename_i hg
        rcases hg.1 with z | z
        · exact SepN.go h1 s.2 (rfm_up h3 (Or.inl (nrfa z.1 (by decide)))) (kep_up (okr_in s.1 (arr z.1 (by decide) (by decide))))
        · exact SepN.go h1 s.2 (rfm_up h3 (Or.inl (nrfa z.1 (by decide)))) (kep_up (okr_in s.1 (arr z.1 (by decide) (by decide))))
      · exact SepN.no
    · exact SepN.no
  · split
    · split
      · exact SepN.kp h1 (RfS_c.mpr ⟨trivial, (RfS_c.mp (RfS_c.mp h2).2).2⟩) h3
      · exact SepN.no
    · exact SepN.no
  · split
    · rename_i v i k st'
      have s := RfS_c.mp (RfS_c.mp (RfS_c.mp h2).2).2
      split
      · rename_i hg
        exact SepN.go h1 s.2 (rfm_up h3 (Or.inl (nrfa hg.1 (by decide)))) (kep_up (okr_in s.1 (arr hg.1 (by decide) (by decide))))
      · exact SepN.no
    · exact SepN.no
  · split
    · rename_i i k st'
      have s := RfS_c.mp (RfS_c.mp h2).2
      split
      · rename_i hg
        have k0 : 0 < k := by rcases hg.1 with z | z | z <;> exact arr z (by decide) (by decide)
        obtain ⟨k1, k2⟩ := okr_in s.1 k0
        exact SepN.kp h1 (RfS_c.mpr ⟨h3 k k1 k2 i (Or.inr hg), s.2⟩) h3
      · exact SepN.no
    · exact SepN.no
  · split
    · rename_i v i k st'
      have s0 := RfS_c.mp h2
      have s := RfS_c.mp (RfS_c.mp s0.2).2
      split
      · rename_i hg
        exact SepN.go h1 s.2 (rfm_up h3 (Or.inr s0.1)) (kep_up (okr_in s.1 (arr hg.1 (by decide) (by decide))))
      · exact SepN.no
    · exact SepN.no
  · cases g
  · cases g
  · cases g
  · cases g
  · exact SepN.no
theorem RfS.drop {n : Nat} (h : RfS lo hi st) : RfS lo hi (st.drop n) := fun v hv => h v (List.mem_of_mem_drop hv)
theorem RfS.take {n : Nat} (h : RfS lo hi st) : RfS lo hi (st.take n) := fun v hv => h v (List.mem_of_mem_take hv)
theorem RfS.rev (h : RfS lo hi st) : RfS lo hi st.reverse := fun v hv => h v (List.mem_reverse.mp hv)
theorem exE_sep {op : Nat} {a b : Int} {nx : Nat} (hlo : 0 < lo) (g : sepI (op, a, b, nx) = true) (h1 : RfL lo hi ls) (h2 : RfS lo hi st) (h3 : RfM lo hi M) : SepN lo hi M (exE clO op a b nx ls st M SH) := by
  have cal : ∀ {p : Bool}, (!p && Nat.blt a.toNat 298) = true → p = false ∧ a.toNat < 298 := fun {p} g => by
    rw [Bool.and_eq_true, Nat.blt_eq, Bool.not_eq_true'] at g
    exact g
  unfold exE
  split
  · obtain ⟨g1, g2⟩ := cal (p := isIni a.toNat) g
    split
    · rename_i r rest e
      have d := h2.drop (n := b.toNat)
      rw [e] at d
      have d := RfS_c.mp d
      split
      · exact ⟨RfS_c.mpr ⟨d.1, h2.take.rev⟩, d.2, g1, g2⟩
      · exact SepN.no
    · exact SepN.no
  · cases g
  · obtain ⟨g1, g2⟩ := cal (p := isIni a.toNat) g
    split
    · exact ⟨h2.take.rev, h2.drop, g1, g2⟩
    · exact SepN.no
  · split
    · split
      · exact SepN.kp h1 (RfS_c.mp h2).2 h3
      · exact SepN.no
    · exact SepN.no
  · split
    · split
      · exact SepN.kp h1 (RfS_c.mpr ⟨trivial, (RfS_c.mp (RfS_c.mp h2).2).2⟩) h3
      · exact SepN.no
    · exact SepN.no
  · split
    · split
      · exact SepN.kp h1 (RfS_c.mpr ⟨trivial, (RfS_c.mp (RfS_c.mp h2).2).2⟩) h3
      · exact SepN.no
    · exact SepN.no
  · split
    · split
      · exact SepN.kp h1 (RfS_c.mpr ⟨trivial, (RfS_c.mp h2).2⟩) h3
      · exact SepN.no
    · exact SepN.no
  · split
    · rename_i n dp kd sp ks st'
      have s3 := RfS_c.mp (RfS_c.mp (RfS_c.mp h2).2).2
      have s5 := RfS_c.mp (RfS_c.mp s3.2).2
      split
      · rename_i hg
        have r := okr_in s3.1 (sh_pos hg.2.1 (by decide) (by decide) (by decide))
        refine SepN.go h1 s5.2 (fun k k1 k2 j hj => ?_) (fun k hk => funext fun j => ?_)
        · split
          · rename_i z
            rw [z.1] at hj
            exact absurd hj (nrfa hg.2.1 (by decide))
          · exact h3 k k1 k2 j hj
        · rw [if_neg (fun z => hk (by rw [z.1]; exact r))]
      · exact SepN.no
    · exact SepN.no
  · exact SepN.no
theorem exR_sep {op : Nat} {a : Int} {w : AV} (h2 : RfS lo hi st) (h : exR op a st = some w) : RfA lo hi w := by
  unfold exR at h
  split at h
  · cases h; trivial
  · split at h
    · cases h; trivial
    · cases h
  · cases h; trivial
  · split at h
    · cases h
      exact h2 _ List.mem_cons_self
    · cases h
  · cases h
theorem exStep_sep {sw : List (Int × Nat)} {y : Nat} {i : Ins} (hlo : 0 < lo) (hy : y ≠ LAWN) (g : sepI i = true) (h1 : RfL lo hi ls) (h2 : RfS lo hi st) (h3 : RfM lo hi M) : SepN lo hi M (exStep clO sw y i ls st M SH) := by
  obtain ⟨op, a, b, nx⟩ := i
  unfold exStep
  repeat' split
  · refine exA_sep (fun e => ?_) h1 h2 h3
    replace e : op = 4 := e
    subst e
    exact of_decide_eq_true g
  · exact exB_sep h1 h2 h3
  · exact exC_sep h1 h2 h3
  · exact exD_sep hlo hy g h1 h2 h3
  · exact exE_sep hlo g h1 h2 h3
  · show SepN lo hi M ((exR op a st).map fun v => .inr (.inr v))
    cases e : exR op a st with
    | none => exact SepN.no
    | some v => exact exR_sep h2 e
theorem padL_sep : ∀ {as : List AV}, RfS lo hi as → RfL lo hi (padL as)
  | [], _ => fun v hv => absurd hv List.not_mem_nil
  | w :: as, h => by
    have s := RfS_c.mp h
    have ih := padL_sep s.2
    intro v hv
    match w, s.1, hv with
    | .inl x, w1, hv =>
      rcases List.mem_cons.mp hv with e | hv
      · cases e; trivial
      · exact ih v hv
    | .inr (.inl x), w1, hv =>
      rcases List.mem_cons.mp hv with e | hv
      · cases e; trivial
      · rcases List.mem_cons.mp hv with e | hv
        · cases e
        · exact ih v hv
    | .inr (.inr x), w1, hv =>
      rcases List.mem_cons.mp hv with e | hv
      · cases e; exact w1
      · exact ih v hv
theorem entL_sep {y : Nat} {as : List AV} (h : RfS lo hi as) : RfL lo hi (entL y as) := fun v hv => by
  unfold entL at hv
  rcases List.mem_append.mp hv with z | z
  · exact padL_sep h v z
  · exact absurd (List.eq_of_mem_replicate z) (by intro e; cases e)
theorem run_sep (hlo : 0 < lo) : ∀ (n : Nat) {y pc : Nat} {ls : Lo} {st : List AV} {M : Mem} {r : AV} {N : Mem} {sh' : Sh}, y < 298 → isIni y = false → RfL lo hi ls → RfS lo hi st → RfM lo hi M → run n y pc ls st M SH = some (r, N, sh') → sh' = SH ∧ RfA lo hi r ∧ RfM lo hi N ∧ Kep lo hi M N
  | 0, _, _, _, _, _, _, _, _, _, _, _, _, _, h => nomatch h
  | n + 1, y, pc, ls, st, M, r, N, sh', hy, hi', h1, h2, h3, h => by
    unfold run at h
    split at h
    · cases h
    rename_i i hcd
    have hs := exStep_sep (sw := sws y pc) hlo (show y ≠ LAWN by show y ≠ 298; omega) (sep_at hy hi' hcd) h1 h2 h3
    split at h
    · cases h
    · rename_i q hx
      rw [hx] at hs
      obtain ⟨e1, e2, e3, e4, e5⟩ : q.2.2.2.2 = SH ∧ RfL lo hi q.2.1 ∧ RfS lo hi q.2.2.1 ∧ RfM lo hi q.2.2.2.1 ∧ Kep lo hi M q.2.2.2.1 := hs
      rw [e1] at h
      obtain ⟨g1, g2, g3, g4⟩ := run_sep hlo n hy hi' e2 e3 e4 h
      exact ⟨g1, g2, g3, fun k hk => (g4 k hk).trans (e5 k hk)⟩
    · rename_i q hx
      rw [hx] at hs
      obtain ⟨e1, e2, e3, e4⟩ : RfS lo hi q.2.1 ∧ RfS lo hi q.2.2.2 ∧ isIni q.1 = false ∧ q.1 < 298 := hs
      split at h
      · split at h
        · cases h
        rename_i r1 hr1
        obtain ⟨g1, g2, g3, g4⟩ := run_sep hlo n (r := r1.1) (N := r1.2.1) (sh' := r1.2.2) e4 e3 (entL_sep e1) RfS.nil h3 hr1
        rw [g1] at h
        have e2' : RfS lo hi (pushR q.1 r1.1 q.2.2.2) := by
          unfold pushR
          split
          · exact e2
          · exact RfS_c.mpr ⟨g2, e2⟩
        obtain ⟨k1, k2, k3, k4⟩ := run_sep hlo n hy hi' h1 e2' g3 h
        exact ⟨k1, k2, k3, fun k hk => (k4 k hk).trans (g4 k hk)⟩
      · cases h
    · rename_i v hx
      rw [hx] at hs
      cases h
      exact ⟨rfl, hs, h3, Kep.rf⟩
theorem WI.sep {z : Nat} {as : List AV} {Q : Int → Mem → Prop} (hlo : 0 < lo) (hz : z < 298) (hi' : isIni z = false) (ha : RfS lo hi as) (hm : RfM lo hi M) (h : WI z as M Q) : WI z as M (fun x M' => Q x M' ∧ RfM lo hi M' ∧ Kep lo hi M M') := by
  obtain ⟨n, r, M', h1, x, e, q⟩ := h
  obtain ⟨-, -, g3, g4⟩ := run_sep hlo n hz hi' (entL_sep ha) RfS.nil hm h1
  exact ⟨n, r, M', h1, x, e, q, g3, g4⟩
end SP
