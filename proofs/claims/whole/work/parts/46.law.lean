/-! A LAW'S RULES: what a directive does to the tables being made. -/
/-- the tables being made: the law, the words to learn, the costs, the directives seen (5 .. 10), the costs named -/
abbrev Gs : Type := Lw × List (List Int) × (Int → Int) × (Int → Bool) × (Int → Bool)
abbrev Rs (α : Type) : Type := Except (Int × Int) α
def setz (L : Lw) (i : Nat) (v : Int) : Lw := (L.1, L.2.1, L.2.2.1, L.2.2.2.1, L.2.2.2.2.1, L.2.2.2.2.2.1, fun j => if j = i then v else Lz L j)
def addS (L : Lw) (ch op : Int) (pk : Bool) : Lw := (L.1 + 1, (fun s => if s = L.1 then ch else Llt L s), (fun s => if s = L.1 then op else Lop L s), (fun s => if s = L.1 then pk else Lpk L s), L.2.2.2.2)
def addT (L : Lw) (l : List Int) : Lw := (L.1, L.2.1, L.2.2.1, L.2.2.2.1, Ltd L ++ [l], L.2.2.2.2.2)
def addG (L : Lw) (a b : Int) : Lw := (L.1, L.2.1, L.2.2.1, L.2.2.2.1, L.2.2.2.2.1, Lgl L ++ [(a, b)], L.2.2.2.2.2.2)
def setB (s : Int → Bool) (i : Int) : Int → Bool := fun j => if j = i then true else s j
def bSound (T : List Int) (t : Tk) (g : Gs) : Rs (Tk × Gs) := if t.1 ≠ 1 then .error (wrg t, t.2.1) else if t.2.2 ≠ 1 then .error (4, t.2.1) else if numOf g.1 (bt T t.2.1) ≠ -1 then .error (3, t.2.1) else if nEr T (nx T t) 0 9 ≠ 0 then .error (nEr T (nx T t) 0 9, (nx T t).2.1) else .ok (if isK T (nx T (nx T t)) 11 = true then nx T (nx T (nx T t)) else nx T (nx T t), addS g.1 (bt T t.2.1 - 97) (nmv T (nx T t).2.1 (nx T t).2.2) (isK T (nx T (nx T t)) 11), g.2)
def bTold (T : List Int) (t : Tk) (g : Gs) : Rs (Tk × Gs) := if rEr g.1 T t 1 2 4 ≠ 0 then .error (rEr g.1 T t 1 2 4, t.2.1) else if cds g.1 T t ∈ Ltd g.1 then .error (4, t.2.1) else .ok (nx T t, addT g.1 (cds g.1 T t), g.2)
def bGlide (T : List Int) (t : Tk) (g : Gs) : Rs (Tk × Gs) := if rEr g.1 T t 2 2 2 ≠ 0 then .error (rEr g.1 T t 2 2 2, t.2.1) else if gi (cds g.1 T t) 0 = gi (cds g.1 T t) 1 ∨ (gi (cds g.1 T t) 0, gi (cds g.1 T t) 1) ∈ Lgl g.1 then .error (4, t.2.1) else .ok (nx T t, addG g.1 (gi (cds g.1 T t) 0) (gi (cds g.1 T t) 1), g.2)
def bWord (T : List Int) (t : Tk) (g : Gs) : Rs (Tk × Gs) := if rEr g.1 T t 0 1 12 ≠ 0 then .error (rEr g.1 T t 0 1 12, t.2.1) else .ok (nx T t, g.1, g.2.1 ++ [cds g.1 T t], g.2.2)
def bHelp (T : List Int) (t : Tk) (g : Gs) : Rs (Tk × Gs) := if rEr g.1 T t 2 1 1 ≠ 0 then .error (rEr g.1 T t 2 1 1, t.2.1) else .ok (nx T t, setz g.1 9 (gi (cds g.1 T t) 0), g.2)
def bCost (T : List Int) (t : Tk) (g : Gs) : Rs (Tk × Gs) := if namOf T t < 0 then .error (wrg t, t.2.1) else if g.2.2.2.2 (namOf T t) = true then .error (wrg t, t.2.1) else if nEr T (nx T t) 0 999 ≠ 0 then .error (nEr T (nx T t) 0 999, (nx T t).2.1) else .ok (nx T (nx T t), g.1, g.2.1, updC g.2.2.1 (namOf T t) (nmv T (nx T t).2.1 (nx T t).2.2), g.2.2.2.1, setB g.2.2.2.2 (namOf T t))
/-- a number of the law -/
def bNum (T : List Int) (i : Nat) (lo hi : Int) (t : Tk) (g : Gs) : Rs (Tk × Gs) := if nEr T t lo hi ≠ 0 then .error (nEr T t lo hi, t.2.1) else .ok (nx T t, setz g.1 i (nmv T t.2.1 t.2.2), g.2)
def thn (r : Rs (Tk × Gs)) (f : Tk → Gs → Rs (Tk × Gs)) : Rs (Tk × Gs) := match r with
  | .error e => .error e
  | .ok x => f x.1 x.2
def bClose (T : List Int) (t : Tk) (g : Gs) : Rs (Tk × Gs) := thn (bNum T 1 0 4 t g) (bNum T 2 0 9)
def bWeigh (T : List Int) (t : Tk) (g : Gs) : Rs (Tk × Gs) := thn (thn (thn (bNum T 3 0 9 t g) (bNum T 4 0 9)) (bNum T 5 0 9)) (bNum T 6 1 99)
def bStress (T : List Int) (t : Tk) (g : Gs) : Rs (Tk × Gs) := thn (bNum T 7 1 4 t g) fun t g => if t.1 = 2 then bNum T 8 0 9 t g else .ok (t, setz g.1 8 0, g.2)
def body (T : List Int) (d : Int) (t : Tk) (g : Gs) : Rs (Tk × Gs) := if d = 0 then bSound T t g else if d = 1 then bTold T t g else if d = 2 then bGlide T t g else if d = 3 then bWord T t g else if d = 4 then bCost T t g else if d = 5 then bNum T 0 0 9 t g else if d = 6 then bClose T t g else if d = 7 then bWeigh T t g else if d = 8 then bStress T t g else if d = 9 then bHelp T t g else bNum T 10 0 4 t g
def full (g : Gs) (d : Int) : Bool := if d = 0 then decide (16 ≤ Ln g.1) else if d = 1 then decide (12 ≤ (Ltd g.1).length) else if d = 2 then decide (6 ≤ (Lgl g.1).length) else if d = 3 then decide (20 ≤ g.2.1.length) else if d = 4 then false else g.2.2.2.1 (d - 5)
def mark (g : Gs) (d : Int) : Gs := if d < 5 then g else (g.1, g.2.1, g.2.2.1, setB g.2.2.2.1 (d - 5), g.2.2.2.2)
def fin (T : List Int) (r : Rs (Tk × Gs)) : Rs (Tk × Gs) := thn r fun t g => if eEr t ≠ 0 then .error (eEr t, t.2.1) else .ok (nx T t, g)
def dirR (T : List Int) (t : Tk) (g : Gs) : Rs (Tk × Gs) := if dirOf T t < 0 then .error (wrg t, t.2.1) else if full g (dirOf T t) = true then .error (if 3 < dirOf T t then 2 else 5, t.2.1) else fin T (body T (dirOf T t) (nx T t) (mark g (dirOf T t)))
def lawR (T : List Int) : Nat → Tk → Gs → Rs Gs
  | 0, _, g => .ok g
  | n + 1, t, g => if t.1 = 0 then .ok g else match dirR T t g with
    | .error e => .error e
    | .ok x => lawR T n x.1 x.2
/-- the tables before anything is read -/
def L0 : Lw := (0, (fun _ => 0), (fun _ => 0), (fun _ => false), [], [], fun i => if i = 0 then -1 else if i = 1 then 4 else if i = 2 then 0 else if i = 3 then 1 else if i = 4 then 2 else if i = 5 then 1 else if i = 6 then 2 else if i = 7 then 2 else if i = 8 then 0 else if i = 9 then -1 else 1)
def G0 : Gs := (L0, [], (fun _ => 0), (fun _ => false), fun _ => false)
/-- what the tables keep to -/
def GsOk (g : Gs) : Prop := Wf g.1 ∧ OnW g.1 g.2.1 ∧ g.2.1.length ≤ 20 ∧ (∀ i : Int, 0 ≤ i → i < 6 → 0 ≤ g.2.2.1 i ∧ g.2.2.1 i ≤ 999) ∧ (g.2.2.2.1 3 = false → Lz g.1 8 = 0)
theorem wf_0 : Wf L0 := ⟨⟨by decide, fun s a b => absurd b (by show ¬ s < ((0 : Nat) : Int); omega), fun s t a b d => absurd d (by show ¬ t < ((0 : Nat) : Int); omega)⟩, ⟨by decide, fun l hl => absurd hl List.not_mem_nil, by decide, fun l hl => absurd hl List.not_mem_nil⟩, by unfold WfZ; decide⟩
theorem gok_0 : GsOk G0 := ⟨wf_0, fun i hi => absurd hi (Nat.not_lt_zero _), by decide, fun i a b => ⟨Int.le_refl 0, (show (0 : Int) ≤ 999 by decide)⟩, fun _ => rfl⟩
section WF
variable {L : Lw} {T : List Int} {t : Tk}
theorem wf_setz {i : Nat} {v : Int} (h : Wf L) (hz : WfZ (setz L i v)) : Wf (setz L i v) := ⟨h.1, h.2.1, hz⟩
theorem lz_setz {i j : Nat} {v : Int} : Lz (setz L i v) j = if j = i then v else Lz L j := rfl
theorem wf_addT {l : List Int} (h : Wf L) (hn : (Ltd L).length < 12) (hl : 2 ≤ l.length ∧ l.length ≤ 4 ∧ ∀ s ∈ l, 0 ≤ s ∧ s < Ln L ∧ Lpk L s = false) : Wf (addT L l) := by
  refine ⟨h.1, ⟨?_, fun m hm => ?_, h.2.1.2.2⟩, h.2.2⟩
  · show (Ltd L ++ [l]).length ≤ 12
    rw [List.length_append, List.length_singleton]
    omega
  · rcases List.mem_append.mp hm with z | z
    · exact h.2.1.2.1 m z
    · rw [List.mem_singleton.mp z]
      exact hl
theorem wf_addG {a b : Int} (h : Wf L) (hn : (Lgl L).length < 6) (hl : 0 ≤ a ∧ a < Ln L ∧ 0 ≤ b ∧ b < Ln L ∧ Lpk L a = true ∧ Lpk L b = true) : Wf (addG L a b) := by
  refine ⟨h.1, ⟨h.2.1.1, h.2.1.2.1, ?_, fun m hm => ?_⟩, h.2.2⟩
  · show (Lgl L ++ [(a, b)]).length ≤ 6
    rw [List.length_append, List.length_singleton]
    omega
  · rcases List.mem_append.mp hm with z | z
    · exact h.2.1.2.2.2 m z
    · rw [List.mem_singleton.mp z]
      exact hl
theorem num_none {x : Int} (h : numOf L x = -1) : ∀ s : Int, 0 ≤ s → s < Ln L → Llt L s + 97 ≠ x := by
  have key : ∀ (k : Nat) (i : Int), fnd (fun s => decide (Llt L s + 97 = x)) i k = -1 → 0 ≤ i → ∀ s : Int, i ≤ s → s < i + k → Llt L s + 97 ≠ x := by
    intro k
    induction k with
    | zero => intro i _ _ s a b; omega
    | succ k ih =>
      intro i e i0 s a b
      unfold fnd at e
      by_cases q : Llt L i + 97 = x
      · rw [if_pos (decide_eq_true q)] at e
        omega
      · rw [if_neg (by rw [decide_eq_false q]; decide)] at e
        by_cases q1 : s = i
        · rw [q1]; exact q
        · exact ih (i + 1) e (by omega) s (by omega) (by omega)
  intro s a b
  exact key (Ln L) 0 h (Int.le_refl _) s a (by omega)
theorem as_ln {ch op : Int} {pk : Bool} : Ln (addS L ch op pk) = Ln L + 1 := rfl
theorem as_lt {ch op : Int} {pk : Bool} {s : Int} : Llt (addS L ch op pk) s = if s = Ln L then ch else Llt L s := rfl
theorem as_op {ch op : Int} {pk : Bool} {s : Int} : Lop (addS L ch op pk) s = if s = Ln L then op else Lop L s := rfl
theorem as_pk {ch op : Int} {pk : Bool} {s : Int} : Lpk (addS L ch op pk) s = if s = Ln L then pk else Lpk L s := rfl
theorem wf_addS {ch op : Int} {pk : Bool} (h : Wf L) (hn : Ln L < 16) (hc : 0 ≤ ch ∧ ch < 26) (ho : 0 ≤ op ∧ op ≤ 9) (hm : numOf L (ch + 97) = -1) : Wf (addS L ch op pk) := by
  obtain ⟨⟨h1, h2, h3⟩, ⟨h4, h5, h6, h7⟩, h8⟩ := h
  have nn := num_none hm
  refine ⟨⟨by rw [as_ln]; omega, fun s a b => ?_, fun s u a b d => ?_⟩, ⟨h4, fun l hl => ?_, h6, fun g hg => ?_⟩, ?_⟩
  · rw [as_ln] at b
    rw [as_lt, as_op]
    by_cases q : s = Ln L
    · rw [if_pos q, if_pos q]; omega
    · rw [if_neg q, if_neg q]; exact h2 s a (by omega)
  · rw [as_ln] at d
    rw [as_lt, as_lt, if_neg (by omega)]
    by_cases q : u = Ln L
    · rw [if_pos q]
      have := nn s a (by omega)
      omega
    · rw [if_neg q]; exact h3 s u a b (by omega)
  · obtain ⟨x1, x2, x3⟩ := h5 l hl
    refine ⟨x1, x2, fun s hs => ?_⟩
    obtain ⟨y1, y2, y3⟩ := x3 s hs
    rw [as_pk, as_ln, if_neg (by omega)]
    exact ⟨y1, by omega, y3⟩
  · obtain ⟨y1, y2, y3, y4, y5, y6⟩ := h7 g hg
    rw [as_pk, as_pk, as_ln, if_neg (by omega), if_neg (by omega)]
    exact ⟨y1, by omega, y3, by omega, y5, y6⟩
  · unfold WfZ at h8 ⊢
    refine ⟨h8.1, h8.2.1, h8.2.2.1, h8.2.2.2.1, h8.2.2.2.2.1, h8.2.2.2.2.2.1, h8.2.2.2.2.2.2.1, h8.2.2.2.2.2.2.2.1, h8.2.2.2.2.2.2.2.2.1, ?_, h8.2.2.2.2.2.2.2.2.2.2⟩
    rcases h8.2.2.2.2.2.2.2.2.2.1 with z | ⟨z1, z2, z3⟩
    · exact Or.inl z
    · refine Or.inr ⟨z1, ?_, ?_⟩
      · show Lz L 9 < ((Ln L + 1 : Nat) : Int)
        omega
      · rw [as_pk, if_neg (by show Lz L 9 ≠ _; omega)]
        exact z3
theorem pkn_addS {ch op : Int} {pk : Bool} {s : Int} (h0 : 0 ≤ s) (h1 : s < Ln L) : pkn (addS L ch op pk) s = pkn L s := by
  unfold pkn
  rw [as_ln, as_pk, if_neg (by omega), decide_eq_true (show 0 ≤ s ∧ s < Ln L from ⟨h0, h1⟩), decide_eq_true (show 0 ≤ s ∧ s < ((Ln L + 1 : Nat) : Int) from ⟨h0, by omega⟩)]
theorem lead_addS {ch op : Int} {pk : Bool} {l : List Int} (h : ∀ s ∈ l, 0 ≤ s ∧ s < Ln L) : leadKey (addS L ch op pk) l = leadKey L l := by
  have e1 : hasPk (addS L ch op pk) l = hasPk L l := by
    unfold hasPk
    induction l with
    | nil => rfl
    | cons a l ih =>
      have := h a List.mem_cons_self
      rw [List.any_cons, List.any_cons, pkn_addS this.1 this.2, ih (fun s hs => h s (List.mem_cons_of_mem _ hs))]
  have e2 : leadL (addS L ch op pk) l = leadL L l := by
    unfold leadL
    clear e1
    induction l with
    | nil => rfl
    | cons a l ih =>
      have := h a List.mem_cons_self
      rw [List.takeWhile_cons, List.takeWhile_cons, pkn_addS this.1 this.2, ih (fun s hs => h s (List.mem_cons_of_mem _ hs))]
  unfold leadKey
  rw [e1, e2]
theorem on_addS {ch op : Int} {pk : Bool} {W : List (List Int)} (h : OnW L W) : OnW (addS L ch op pk) W := fun i hi => by
  obtain ⟨a, b, d⟩ := h i hi
  exact ⟨a, b, fun s hs => ⟨(d s hs).1, by have := (d s hs).2; rw [as_ln]; omega⟩⟩
end WF
