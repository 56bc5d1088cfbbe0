/-! MEND, part one: its mathematics. -/
theorem p2_pos (n : Nat) : (1 : Int) ≤ (2 : Int) ^ n := by
  induction n with
  | zero => exact Int.le_refl _
  | succ n ih => rw [Int.pow_succ]; omega
theorem p2_le {n m : Nat} (h : n ≤ m) : (2 : Int) ^ n ≤ (2 : Int) ^ m := by
  induction h with
  | refl => exact Int.le_refl _
  | step _ ih => rw [Int.pow_succ]; have := p2_pos n; omega
/-- places one behind another, from one on, below an end -/
def VP (m : Int) : Int → List Int → Prop
  | _, [] => True
  | lo, p :: r => lo ≤ p ∧ p < m ∧ VP m (p + 1) r
def vl (m : Int) : List Int → Int
  | [] => 0
  | p :: r => (2 : Int) ^ (m - 1 - p).toNat + vl m r
theorem vl_nn (m : Int) : ∀ P : List Int, 0 ≤ vl m P
  | [] => Int.le_refl _
  | p :: r => by
    have := vl_nn m r
    have := p2_pos (m - 1 - p).toNat
    show 0 ≤ (2 : Int) ^ (m - 1 - p).toNat + vl m r
    omega
theorem VP_lo {m : Int} : ∀ {P : List Int} {a b : Int}, VP m b P → a ≤ b → VP m a P
  | [], _, _, _, _ => trivial
  | _ :: _, _, _, h, g => ⟨by have := h.1; omega, h.2.1, h.2.2⟩
theorem VP_len {m : Int} : ∀ (P : List Int) (lo : Int), VP m lo P → lo ≤ m → (P.length : Int) ≤ m - lo
  | [], lo, _, h => by show (0 : Int) ≤ _; omega
  | p :: r, lo, h, _ => by
    have := VP_len r (p + 1) h.2.2 (by have := h.2.1; omega)
    have := h.1
    rw [List.length_cons]
    omega
theorem vl_lt {m : Int} : ∀ (P : List Int) (lo : Int), VP m lo P → vl m P < (2 : Int) ^ (m - lo).toNat
  | [], lo, _ => by have := p2_pos (m - lo).toNat; show (0 : Int) < _; omega
  | p :: r, lo, h => by
    have h1 := vl_lt r (p + 1) h.2.2
    have h2 := p2_le (show (m - p).toNat ≤ (m - lo).toNat by have := h.1; omega)
    have e : (m - p).toNat = (m - 1 - p).toNat + 1 := by have := h.2.1; omega
    rw [e, Int.pow_succ] at h2
    rw [show m - (p + 1) = m - 1 - p by omega] at h1
    show (2 : Int) ^ (m - 1 - p).toNat + vl m r < _
    omega
def upP : Int → Nat → List Int
  | _, 0 => []
  | f, k + 1 => f :: upP (f + 1) k
theorem upP_len : ∀ (k : Nat) (f : Int), (upP f k).length = k
  | 0, _ => rfl
  | k + 1, f => by
    show (upP (f + 1) k).length + 1 = k + 1
    rw [upP_len k]
theorem upP_ok {m : Int} : ∀ (k : Nat) (f : Int), f + k ≤ m → VP m f (upP f k)
  | 0, _, _ => trivial
  | k + 1, f, h => ⟨Int.le_refl _, by omega, upP_ok k (f + 1) (by omega)⟩
theorem upP_gi : ∀ (k : Nat) (f : Int) (j : Int), 0 ≤ j → j < k → gi (upP f k) j = f + j
  | 0, _, j, a, b => absurd b (by omega)
  | k + 1, f, j, a, b => by
    by_cases q : j = 0
    · rw [q]
      show f = f + 0
      omega
    · show gi (f :: upP (f + 1) k) j = f + j
      rw [gi_consS (by omega), upP_gi k (f + 1) (j - 1) (by omega) (by omega)]
      omega
theorem vl_cons {m f q : Int} {r : List Int} (h : VP m (f + 1) (q :: r)) (T : List Int) : vl m (q :: r) < vl m (f :: T) := by
  have h1 := vl_lt (q :: r) (f + 1) h
  have h2 := vl_nn m T
  rw [show m - (f + 1) = m - 1 - f by omega] at h1
  show _ < (2 : Int) ^ (m - 1 - f).toNat + vl m T
  omega
theorem vl_max {m : Int} : ∀ (Q : List Int) (f : Int), VP m f Q → vl m Q ≤ vl m (upP f Q.length)
  | [], _, _ => Int.le_refl _
  | q :: r, f, h => by
    by_cases e : q = f
    · have := vl_max r (q + 1) h.2.2
      rw [e] at this ⊢
      show (2 : Int) ^ (m - 1 - f).toNat + vl m r ≤ (2 : Int) ^ (m - 1 - f).toNat + vl m (upP (f + 1) r.length)
      omega
    · exact Int.le_of_lt (vl_cons ⟨by have := h.1; omega, h.2.1, h.2.2⟩ _)
theorem vl_inj {m : Int} : ∀ (P Q : List Int) (lo : Int), VP m lo P → VP m lo Q → P.length = Q.length → vl m P = vl m Q → P = Q
  | [], [], _, _, _, _, _ => rfl
  | [], _ :: _, _, _, _, h, _ => by cases h
  | _ :: _, [], _, _, _, h, _ => by cases h
  | p :: r, q :: t, lo, hP, hQ, hl, e => by
    rcases Int.lt_trichotomy p q with c | c | c
    · have := vl_cons (f := p) (q := q) (r := t) ⟨by omega, hQ.2.1, hQ.2.2⟩ r
      omega
    · subst c
      have e2 : (2 : Int) ^ (m - 1 - p).toNat + vl m r = (2 : Int) ^ (m - 1 - p).toNat + vl m t := e
      rw [vl_inj r t (p + 1) hP.2.2 hQ.2.2 (by simpa using hl) (by omega)]
    · have := vl_cons (f := q) (q := p) (r := r) ⟨by omega, hP.2.1, hP.2.2⟩ t
      omega
def nextP (m : Int) : List Int → Option (List Int)
  | [] => none
  | p :: r => match nextP m r with
    | some r' => some (p :: r')
    | none => if p + 1 + r.length < m then some (upP (p + 1) (r.length + 1)) else none
theorem nextP_no {m p : Int} {r : List Int} (h : nextP m r = none) (hp : ¬ p + 1 + r.length < m) : nextP m (p :: r) = none := by
  rw [nextP, h]
  dsimp only
  rw [if_neg hp]
theorem nextP_yes {m p : Int} {r : List Int} (h : nextP m r = none) (hp : p + 1 + r.length < m) : ∀ as : List Int, nextP m (as ++ p :: r) = some (as ++ upP (p + 1) (r.length + 1))
  | [] => by
    rw [List.nil_append, nextP, h]
    dsimp only
    rw [if_pos hp]
    rfl
  | a :: as => by
    rw [List.cons_append, nextP, nextP_yes h hp as]
    rfl
theorem next_some {m : Int} : ∀ (P P' : List Int) (lo : Int), VP m lo P → nextP m P = some P' → VP m lo P' ∧ P'.length = P.length ∧ vl m P' < vl m P
  | [], _, _, _, h => by rw [nextP] at h; cases h
  | p :: r, P', lo, v, h => by
    rw [nextP] at h
    cases hn : nextP m r with
    | some r' =>
      rw [hn] at h
      cases h
      obtain ⟨a, b, c⟩ := next_some r r' (p + 1) v.2.2 hn
      refine ⟨⟨v.1, v.2.1, a⟩, by rw [List.length_cons, List.length_cons, b], ?_⟩
      show (2 : Int) ^ (m - 1 - p).toNat + vl m r' < (2 : Int) ^ (m - 1 - p).toNat + vl m r
      omega
    | none =>
      rw [hn] at h
      dsimp only at h
      split at h
      · rename_i hlt
        cases h
        have ok := upP_ok (m := m) (r.length + 1) (p + 1) (by omega)
        exact ⟨VP_lo ok (by have := v.1; omega), by rw [upP_len, List.length_cons], vl_cons ok _⟩
      · cases h
theorem next_max {m : Int} : ∀ (P Q : List Int) (lo : Int), VP m lo P → VP m lo Q → Q.length = P.length → vl m Q < vl m P → ∃ P', nextP m P = some P' ∧ vl m Q ≤ vl m P'
  | [], [], _, _, _, _, h => absurd h (by omega)
  | [], _ :: _, _, _, _, h, _ => by cases h
  | _ :: _, [], _, _, _, h, _ => by cases h
  | p :: r, q :: t, lo, hP, hQ, hl, h => by
    have hl' : t.length = r.length := by simpa using hl
    rcases Int.lt_trichotomy p q with c | c | c
    · -- the other one begins later
      rw [nextP]
      cases hn : nextP m r with
      | some r' =>
        exact ⟨p :: r', rfl, Int.le_of_lt (vl_cons ⟨by omega, hQ.2.1, hQ.2.2⟩ _)⟩
      | none =>
        dsimp only
        have := VP_len t (q + 1) hQ.2.2 (by have := hQ.2.1; omega)
        rw [if_pos (by omega)]
        refine ⟨_, rfl, ?_⟩
        have := vl_max (q :: t) (p + 1) ⟨by omega, hQ.2.1, hQ.2.2⟩
        rw [List.length_cons, hl'] at this
        exact this
    · subst c
      have h2 : (2 : Int) ^ (m - 1 - p).toNat + vl m t < (2 : Int) ^ (m - 1 - p).toNat + vl m r := h
      obtain ⟨r', e, hle⟩ := next_max r t (p + 1) hP.2.2 hQ.2.2 hl' (by omega)
      rw [nextP, e]
      refine ⟨p :: r', rfl, ?_⟩
      show (2 : Int) ^ (m - 1 - p).toNat + vl m t ≤ (2 : Int) ^ (m - 1 - p).toNat + vl m r'
      omega
    · have := vl_cons (f := q) (q := p) (r := r) ⟨by omega, hP.2.1, hP.2.2⟩ t
      omega
def srch (fit : List Int → Bool) (m : Int) : Nat → List Int → Option (List Int)
  | 0, _ => none
  | n + 1, P => if fit P = true then some P else match nextP m P with
    | some P' => srch fit m n P'
    | none => none
theorem srch_s (fit : List Int → Bool) (m : Int) (n : Nat) (P : List Int) : srch fit m (n + 1) P = if fit P = true then some P else match nextP m P with
    | some P' => srch fit m n P'
    | none => none := rfl
theorem srch_ok {fit : List Int → Bool} {m : Int} : ∀ (n : Nat) (P : List Int), VP m 0 P → vl m P < n → (∀ R, srch fit m n P = some R → VP m 0 R ∧ R.length = P.length ∧ fit R = true ∧ ∀ Q, VP m 0 Q → Q.length = P.length → vl m R < vl m Q → vl m Q ≤ vl m P → ¬ fit Q = true) ∧ (srch fit m n P = none → ∀ Q, VP m 0 Q → Q.length = P.length → vl m Q ≤ vl m P → ¬ fit Q = true)
  | 0, P, _, h => by have := vl_nn m P; exact absurd h (by omega)
  | n + 1, P, v, h => by
    rw [srch_s]
    by_cases q : fit P = true
    · rw [if_pos q]
      refine ⟨fun R e => ?_, fun e => by cases e⟩
      cases e
      exact ⟨v, rfl, q, fun Q _ _ a b => by omega⟩
    · rw [if_neg q]
      cases hn : nextP m P with
      | some P' =>
        obtain ⟨a, b, c⟩ := next_some P P' 0 v hn
        obtain ⟨ih1, ih2⟩ := srch_ok (fit := fit) n P' a (by omega)
        have le : ∀ Q, VP m 0 Q → Q.length = P.length → vl m Q ≤ vl m P → Q = P ∨ vl m Q ≤ vl m P' := fun Q vQ lQ hQ => by
          rcases Int.lt_or_eq_of_le hQ with z | z
          · obtain ⟨P2, e2, h2⟩ := next_max P Q 0 v vQ lQ z
            rw [hn] at e2
            cases e2
            exact Or.inr h2
          · exact Or.inl (vl_inj Q P 0 vQ v lQ z)
        dsimp only
        refine ⟨fun R e => ?_, fun e Q vQ lQ hQ => ?_⟩
        · obtain ⟨r1, r2, r3, r4⟩ := ih1 R e
          refine ⟨r1, by omega, r3, fun Q vQ lQ h1 h2 => ?_⟩
          rcases le Q vQ lQ h2 with z | z
          · rw [z]; exact q
          · exact r4 Q vQ (by omega) h1 z
        · rcases le Q vQ lQ hQ with z | z
          · rw [z]; exact q
          · exact ih2 e Q vQ (by omega) z
      | none =>
        dsimp only
        refine ⟨fun R e => (by cases e), fun _ Q vQ lQ hQ => ?_⟩
        rcases Int.lt_or_eq_of_le hQ with z | z
        · obtain ⟨P2, e2, -⟩ := next_max P Q 0 v vQ lQ z
          rw [hn] at e2
          cases e2
        · rw [vl_inj Q P 0 vQ v lQ z]; exact q
/-- a word with helpers at places -/
def mndP (hp : Int) : List Int → Int → List Int → List Int
  | [], _, [] => []
  | [], p, q :: _ => if q = p then [hp] else []
  | a :: r, p, [] => a :: mndP hp r (p + 1) []
  | a :: r, p, q :: Q => if q = p then hp :: a :: mndP hp r (p + 1) Q else a :: mndP hp r (p + 1) (q :: Q)
theorem mndP_len {hp : Int} : ∀ (l : List Int) (p : Int) (P : List Int), VP (p + l.length + 1) p P → (mndP hp l p P).length = l.length + P.length
  | [], p, [], _ => rfl
  | [], p, q :: Q, h => by
    have h1 := h.1
    have h2 := h.2.1
    have h3 := VP_len Q (q + 1) h.2.2 (by omega)
    rw [List.length_nil] at h2 h3
    have eq : q = p := by omega
    have e0 : Q = [] := List.length_eq_zero_iff.mp (by omega)
    rw [mndP, if_pos eq, e0]
    rfl
  | a :: r, p, [], h => by
    rw [mndP, List.length_cons, List.length_cons, mndP_len r (p + 1) [] trivial]
    rfl
  | a :: r, p, q :: Q, h => by
    rw [List.length_cons] at h
    rw [mndP]
    by_cases e : q = p
    · rw [if_pos e, List.length_cons, List.length_cons, mndP_len r (p + 1) Q (by have h3 := h.2.2; rw [e] at h3; rw [show p + 1 + (r.length : Int) + 1 = p + ((r.length + 1 : Nat) : Int) + 1 by omega]; exact h3), List.length_cons, List.length_cons]
      omega
    · rw [if_neg e, List.length_cons, mndP_len r (p + 1) (q :: Q) (by rw [show p + 1 + (r.length : Int) + 1 = p + ((r.length + 1 : Nat) : Int) + 1 by omega]; exact ⟨by have := h.1; omega, h.2.1, h.2.2⟩), List.length_cons, List.length_cons]
      omega
theorem mndP_mem {hp : Int} : ∀ (l : List Int) (p : Int) (P : List Int), ∀ s ∈ mndP hp l p P, s = hp ∨ s ∈ l
  | [], p, [], s, h => by cases h
  | [], p, q :: Q, s, h => by
    rw [mndP] at h
    split at h
    · exact Or.inl (List.mem_singleton.mp h)
    · cases h
  | a :: r, p, [], s, h => by
    rw [mndP] at h
    rcases List.mem_cons.mp h with z | z
    · exact Or.inr (by rw [z]; exact List.mem_cons_self)
    · exact (mndP_mem r (p + 1) [] s z).imp id (List.mem_cons_of_mem _)
  | a :: r, p, q :: Q, s, h => by
    rw [mndP] at h
    split at h
    · rcases List.mem_cons.mp h with z | z
      · exact Or.inl z
      · rcases List.mem_cons.mp z with y | y
        · exact Or.inr (by rw [y]; exact List.mem_cons_self)
        · exact (mndP_mem r (p + 1) Q s y).imp id (List.mem_cons_of_mem _)
    · rcases List.mem_cons.mp h with z | z
      · exact Or.inr (by rw [z]; exact List.mem_cons_self)
      · exact (mndP_mem r (p + 1) (q :: Q) s z).imp id (List.mem_cons_of_mem _)
def fitP (L : Lw) (W : List (List Int)) (l P : List Int) : Bool := decide (0 < cnt (X0 L (mndP (Lz L 9) l 0 P))) && decide (fstBad L W (XP L W (X0 L (mndP (Lz L 9) l 0 P))) = -1)
def seekP (fit : List Int → Bool) (m : Int) : Nat → Nat → Option (List Int)
  | 0, _ => none
  | n + 1, k => match srch fit m 100000 (upP 0 k) with
    | some P => some P
    | none => seekP fit m n (k + 1)
theorem seekP_s (fit : List Int → Bool) (m : Int) (n k : Nat) : seekP fit m (n + 1) k = match srch fit m 100000 (upP 0 k) with
    | some P => some P
    | none => seekP fit m n (k + 1) := rfl
def mostP (l : List Int) : Nat := min (l.length + 1) (12 - l.length)
def mendL (L : Lw) (W : List (List Int)) (l : List Int) : Option (List Int) := seekP (fitP L W l) (l.length + 1) (mostP l + 1) 0
def aMend (L : Lw) (W S : List (List Int)) (w i : Int) : Int := match wd W S w with
  | none => -1
  | some l => if Lz L 9 = -1 then -2 else match mendL L W l with
    | none => -2
    | some P => if i = -1 then P.length else if i < 0 then -1 else gi P i
