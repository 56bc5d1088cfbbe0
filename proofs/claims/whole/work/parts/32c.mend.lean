/-! MEND, part three: the model. -/
theorem and32_1 (x : Int) : and32 x 1 = x % 2 := by
  unfold and32
  have h3 : (Int32.ofInt x &&& Int32.ofInt 1).toBitVec.toNat = (x % 2).toNat := by
    rw [Int32.toBitVec_and, BitVec.toNat_and]
    show (BitVec.ofInt 32 x).toNat &&& (2 ^ 1 - 1) = _
    rw [Nat.and_two_pow_sub_one_eq_mod, BitVec.toNat_ofInt]
    omega
  show (Int32.ofInt x &&& Int32.ofInt 1).toBitVec.toInt = _
  rw [BitVec.toInt_eq_toNat_of_lt (by rw [h3]; omega), h3]
  omega
/-- the places that a number tells -/
def PL : Nat → Int → List Int
  | 0, _ => []
  | m + 1, s => PL m (s / 2) ++ (if s % 2 = 1 then [(m : Int)] else [])
theorem PL_s (m : Nat) (s : Int) : PL (m + 1) s = PL m (s / 2) ++ (if s % 2 = 1 then [(m : Int)] else []) := rfl
theorem VP_up {m : Int} : ∀ {A : List Int} {lo : Int}, VP m lo A → VP (m + 1) lo A
  | [], _, _ => trivial
  | _ :: _, _, h => ⟨h.1, by have := h.2.1; omega, VP_up h.2.2⟩
theorem VP_app {m : Int} : ∀ (A : List Int) (lo : Int), VP m lo A → lo ≤ m → VP (m + 1) lo (A ++ [m])
  | [], lo, _, h => ⟨h, by omega, trivial⟩
  | a :: r, lo, h, g => ⟨h.1, by have := h.2.1; omega, VP_app r (a + 1) h.2.2 (by have := h.2.1; omega)⟩
theorem vl_app (m : Int) : ∀ (A B : List Int), vl m (A ++ B) = vl m A + vl m B
  | [], B => by show vl m B = 0 + vl m B; omega
  | a :: r, B => by
    have := vl_app m r B
    show (2 : Int) ^ (m - 1 - a).toNat + vl m (r ++ B) = (2 : Int) ^ (m - 1 - a).toNat + vl m r + vl m B
    omega
theorem vl_2 {m : Int} : ∀ (A : List Int) (lo : Int), VP m lo A → vl (m + 1) A = 2 * vl m A
  | [], _, _ => rfl
  | a :: r, lo, h => by
    have ih := vl_2 r (a + 1) h.2.2
    have e : (m + 1 - 1 - a).toNat = (m - 1 - a).toNat + 1 := by have := h.2.1; omega
    show (2 : Int) ^ (m + 1 - 1 - a).toNat + vl (m + 1) r = 2 * ((2 : Int) ^ (m - 1 - a).toNat + vl m r)
    rw [e, Int.pow_succ, ih]
    omega
theorem PL_ok : ∀ (m : Nat) (s : Int), VP (m : Int) 0 (PL m s)
  | 0, _ => trivial
  | m + 1, s => by
    have ih := PL_ok m (s / 2)
    rw [PL_s]
    by_cases q : s % 2 = 1
    · rw [if_pos q]
      exact VP_app _ 0 ih (by omega)
    · rw [if_neg q, List.append_nil]
      exact VP_up ih
theorem PL_vl : ∀ (m : Nat) (s : Int), 0 ≤ s → s < (2 : Int) ^ m → vl (m : Int) (PL m s) = s
  | 0, s, h0, h1 => by rw [Int.pow_zero] at h1; show (0 : Int) = s; omega
  | m + 1, s, h0, h1 => by
    rw [Int.pow_succ] at h1
    have ih := PL_vl m (s / 2) (by omega) (by omega)
    have e := vl_2 _ 0 (PL_ok m (s / 2))
    rw [PL_s, vl_app, show ((m + 1 : Nat) : Int) = (m : Int) + 1 from rfl, e, ih]
    by_cases q : s % 2 = 1
    · rw [if_pos q]
      show 2 * (s / 2) + ((2 : Int) ^ ((m : Int) + 1 - 1 - m).toNat + 0) = s
      rw [show ((m : Int) + 1 - 1 - m).toNat = 0 by omega, Int.pow_zero]
      omega
    · rw [if_neg q]
      show 2 * (s / 2) + 0 = s
      omega
theorem PL_bit : ∀ (m : Nat) (s p : Int), 0 ≤ s → 0 ≤ p → p < m → (s / (2 : Int) ^ ((m : Int) - 1 - p).toNat % 2 = 1 ↔ p ∈ PL m s)
  | 0, _, p, _, a, b => absurd b (by omega)
  | m + 1, s, p, h0, a, b => by
    rw [PL_s, List.mem_append]
    by_cases q : p = m
    · have e : (((m + 1 : Nat) : Int) - 1 - p).toNat = 0 := by omega
      rw [e, Int.pow_zero, Int.ediv_one]
      constructor
      · intro h
        rw [if_pos h, q]
        exact Or.inr (List.mem_singleton.mpr rfl)
      · intro h
        rcases h with h | h
        · have : ∀ (A : List Int) (lo : Int), VP (m : Int) lo A → ∀ x ∈ A, x < m := by
            intro A
            induction A with
            | nil => intro lo _ x hx; cases hx
            | cons c r ih =>
              intro lo hv x hx
              rcases List.mem_cons.mp hx with z | z
              · rw [z]; exact hv.2.1
              · exact ih (c + 1) hv.2.2 x z
          have := this _ 0 (PL_ok m (s / 2)) p h
          omega
        · by_cases q2 : s % 2 = 1
          · exact q2
          · rw [if_neg q2] at h; cases h
    · have e : (((m + 1 : Nat) : Int) - 1 - p).toNat = ((m : Int) - 1 - p).toNat + 1 := by omega
      have ih := PL_bit m (s / 2) p (by omega) a (by omega)
      rw [e, Int.pow_succ, Int.mul_comm, ← Int.ediv_ediv_of_nonneg (by decide), ih]
      constructor
      · exact Or.inl
      · intro h
        rcases h with h | h
        · exact h
        · split at h
          · exact absurd (List.mem_singleton.mp h) q
          · cases h
theorem VP_mem {m : Int} : ∀ {R : List Int} {lo : Int}, VP m lo R → ∀ x ∈ R, lo ≤ x ∧ x < m
  | [], _, _, x, hx => by cases hx
  | q :: r, lo, h, x, hx => by
    rcases List.mem_cons.mp hx with z | z
    · rw [z]; exact ⟨h.1, h.2.1⟩
    · have := VP_mem h.2.2 x z
      have := h.1
      omega
/-- the rest of the places from one on: the one itself first, or not among them -/
theorem VP_hd {m p : Int} {R P : List Int} (v : VP m p R) (h : ∀ x, x ∈ R ↔ (x ∈ P ∧ p ≤ x)) : (∃ Q, R = p :: Q ∧ p ∈ P ∧ VP m (p + 1) Q ∧ ∀ x, x ∈ Q ↔ (x ∈ P ∧ p + 1 ≤ x)) ∨ (¬ p ∈ P ∧ VP m (p + 1) R ∧ (∀ x, x ∈ R ↔ (x ∈ P ∧ p + 1 ≤ x)) ∧ ∀ q Q, R = q :: Q → q ≠ p) := by
  cases R with
  | nil =>
    have np : ¬ p ∈ P := fun z => by have := (h p).mpr ⟨z, Int.le_refl _⟩; cases this
    refine Or.inr ⟨np, trivial, fun x => ⟨fun z => (by cases z), fun z => ?_⟩, fun q Q e => (by cases e)⟩
    exact (h x).mpr ⟨z.1, by omega⟩
  | cons q Q =>
    by_cases e : q = p
    · subst e
      refine Or.inl ⟨Q, rfl, ((h q).mp List.mem_cons_self).1, v.2.2, fun x => ⟨fun z => ⟨((h x).mp (List.mem_cons_of_mem _ z)).1, (VP_mem v.2.2 x z).1⟩, fun z => ?_⟩⟩
      rcases List.mem_cons.mp ((h x).mpr ⟨z.1, by omega⟩) with y | y
      · omega
      · exact y
    · have v' : VP m (p + 1) (q :: Q) := ⟨by have := v.1; omega, v.2.1, v.2.2⟩
      have np : ¬ p ∈ P := fun z => by
        have := (VP_mem v' p ((h p).mpr ⟨z, Int.le_refl _⟩)).1
        omega
      refine Or.inr ⟨np, v', fun x => ⟨fun z => ⟨((h x).mp z).1, (VP_mem v' x z).1⟩, fun z => (h x).mpr ⟨z.1, by omega⟩⟩, fun q' Q' e' => ?_⟩
      cases e'
      exact e
section MM
variable {M : Mem} {w i : Int} {L : Lw} {W S : List (List Int)} {l : List Int} {c : Int → Int} {X : Ct}
theorem m264 {Q : Int → Mem → Prop} {m : Nat} {s : Int} (hm : m ≤ 13) (h0 : 0 ≤ s) (h1 : s < (2 : Int) ^ m) : WI 264 [vI s] M Q = Q (PL m s).length M := by
  have key : ∀ (m : Nat) (x a : Int) (P : AV → Mem → Prop), m ≤ 13 → 0 ≤ x → x < (2 : Int) ^ m → P (vI (a + (PL m x).length)) M → WR 264 4 [some (vI s), some (vI a), some (vI x)] [] M P := by
    intro m
    induction m with
    | zero =>
      intro x a P hm x0 x1 hP
      rw [Int.pow_zero] at x1
      refine t_264_4 ⟨by omega, ?_⟩
      rw [if_pos (by omega)]
      rw [show ((PL 0 x).length : Int) = 0 from rfl, Int.add_zero] at hP
      exact hP
    | succ m ih =>
      intro x a P hm x0 x1 hP
      have b := p2_le (show m + 1 ≤ 13 from hm)
      rw [show (2 : Int) ^ 13 = 8192 from rfl] at b
      have x1' := x1
      rw [Int.pow_succ] at x1'
      rw [PL_s, List.length_append] at hP
      refine t_264_4 ⟨by omega, ?_⟩
      by_cases q : x ≤ 0
      · have e0 : ∀ m : Nat, PL m 0 = [] := by
          intro m
          induction m with
          | zero => rfl
          | succ m ih => rw [PL_s, show (0 : Int) / 2 = 0 from rfl, ih]; rfl
        have ex : x = 0 := by omega
        rw [if_pos q]
        rw [ex, show (0 : Int) / 2 = 0 from rfl, e0, if_neg (by decide)] at hP
        rw [show a = a + (([] : List Int).length + ([] : List Int).length : Nat) from (Int.add_zero a).symm]
        exact hP
      · rw [if_neg q, and32_1]
        refine ⟨⟨by omega, by omega⟩, ih (x / 2) _ P (by omega) (by omega) (by omega) ?_⟩
        have e : ((if x % 2 = 1 then [(m : Int)] else []).length : Int) = x % 2 := by
          by_cases q2 : x % 2 = 1
          · rw [if_pos q2, q2]; rfl
          · rw [if_neg q2, show x % 2 = 0 by omega]; rfl
        rw [show a + x % 2 + ((PL m (x / 2)).length : Int) = a + (((PL m (x / 2)).length + (if x % 2 = 1 then [(m : Int)] else []).length : Nat) : Int) by omega]
        exact hP
  refine FN.wi (WC.fn (t_264 (key m s 0 _ hm h0 h1 ⟨by rw [Int.zero_add], rfl⟩)))
theorem mGood {P : AV → Mem → Prop} (h : MCut M L W X) (x1 x2 x3 : Int) (hP : P (vI (b2i (decide (fstBad L W X = -1)))) M) : WR 263 113 [some (vR 204), some (vI x1), some (vI x2), some (vI x3), some (vI 0)] [] M P := by
  have hH := h.1.2.2.2.2.2.2.1
  have hc := hH.1
  have e64 := h.1.p.1
  have key : ∀ (n : Nat) (j : Int), 0 ≤ j → j + n = cnt X → P (vI (b2i (decide (fnd (bad L W X) j n = -1)))) M → WR 263 113 [some (vR 204), some (vI x1), some (vI x2), some (vI x3), some (vI j)] [] M P := by
    intro n
    induction n with
    | zero =>
      intro j hj hn hP
      refine t_263_113 o204 ?_
      rw [h.1.2.2.2.1]
      refine ⟨by omega, by omega, ?_⟩
      rw [if_pos (by omega)]
      exact hP
    | succ n ih =>
      intro j hj hn hP
      have hkr := kind_r L W (okl X j)
      refine t_263_113 o204 ?_
      rw [h.1.2.2.2.1, m239 h hj (by omega), m240 h hj (by omega), e64, mCK h hj (by omega)]
      refine ⟨by omega, by omega, ?_⟩
      rw [if_neg (by omega)]
      refine ⟨by omega, ?_⟩
      unfold fnd bad at hP
      by_cases e1 : kind L W (okl X j) = 0
      · rw [decide_eq_true e1, Bool.true_or, if_pos rfl, decide_eq_false (by omega)] at hP
        rw [if_pos e1]
        exact hP
      · rw [decide_eq_false e1, Bool.false_or] at hP
        rw [if_neg e1, m229 h.1 hj (by omega), m241 h hj (by omega), e64, mCC h hj (by omega)]
        refine ⟨by have := b2i_r (closes L (ckl X j)); omega, ?_⟩
        cases hcl : closes L (ckl X j)
        · rw [hcl, if_pos (by decide), decide_eq_false (by omega)] at hP
          rw [if_pos (by decide)]
          exact hP
        · rw [hcl, if_neg (by decide)] at hP
          rw [if_neg (by decide)]
          exact ih (j + 1) (by omega) (by omega) hP
  exact key X.2.1.length 0 (by omega) (by unfold cnt; omega) hP
theorem m263 {Q : Int → Mem → Prop} {s : Int} (h : MdlQ M L W S c) (hd : WdIs W S w l) (h0 : 0 ≤ s) (h1 : s < (2 : Int) ^ (l.length + 1)) (hfit : l.length + (PL (l.length + 1) s).length ≤ 12) (hhelp : 0 ≤ Lz L 9) (hQ : ∀ M' : Mem, FrM M M' → Q (b2i (fitP L W l (PL (l.length + 1) s))) M') : WI 263 [vR 204, vI w, vI s] M Q := by
  have hok := (hd.ok h.2.1 h.2.2.1).1
  have h12 := hok.2.1
  have hw := h.1.2.2.2.2
  have n16 := hw.1.1
  have hz9 : Lz L 9 < Ln L := by
    have hz := hw.2.2
    unfold WfZ at hz
    rcases hz.2.2.2.2.2.2.2.2.2.1 with z | z
    · omega
    · exact z.2.1
  have hP0 := PL_ok (l.length + 1) s
  have sb : s < 8192 := by
    have b := p2_le (show l.length + 1 ≤ 13 by omega)
    rw [show (2 : Int) ^ 13 = 8192 from rfl] at b
    omega
  have bit := fun p : Int => PL_bit (l.length + 1) s p h0
  generalize PL (l.length + 1) s = P at hP0 hQ hfit bit
  have full := mndP_len (hp := Lz L 9) l 0 P (by rw [Int.zero_add]; exact hP0)
  have onP : onl L (mndP (Lz L 9) l 0 P) := fun s hs => by
    rcases mndP_mem l 0 P s hs with z | z
    · rw [z]; exact ⟨hhelp, hz9⟩
    · exact hok.2.2 s z
  have key : ∀ (n t : Nat) (acc R : List Int) (N : Mem), t + n = l.length + 1 → VP ((l.length + 1 : Nat) : Int) t R → (∀ x, x ∈ R ↔ (x ∈ P ∧ (t : Int) ≤ x)) → (∀ k : Int, k ≠ 204 → k ≠ 232 → N k = M k) → (∀ j : Int, j ≠ 69 → N 204 j = M 204 j) → N 204 69 = acc.length → (∀ j : Int, 0 ≤ j → j < acc.length → N 232 j = gi acc j) → (if t ≤ l.length then acc ++ mndP (Lz L 9) (l.drop t) t R = mndP (Lz L 9) l 0 P else acc = mndP (Lz L 9) l 0 P) → WR 263 14 [some (vR 204), some (vI w), some (vI s), some (vI l.length), some (vI t)] [] N (fun r M' => ∃ x, r = vI x ∧ Q x M') := by
    intro n
    induction n with
    | zero =>
      intro t acc R N ht hR hmem g f h69 hrow he
      have ff : FrM M N := frmL (fun k a b _ _ => g k a b) (fun j a _ => f j a)
      have hN := h.fr ff
      rw [if_neg (by omega)] at he
      refine t_263_14 o204 ⟨by omega, by omega, ?_⟩
      rw [if_pos (by omega)]
      refine m228 (l := mndP (Lz L 9) l 0 P) hN.1 hN.2.1 (by rw [← he]; exact h69) (fun j a b => by rw [Int.zero_add, ← he] at *; exact hrow j a b) onP (by omega) (fun M1 g1 f1 hX => ?_)
      have gg := ff.tr (frmL (fun k a _ b c => g1 k a b c) (fun j _ b => f1 j b))
      have hc12 := hX.2.2.2.2.2.2.1.1
      have hc0 : 0 ≤ cnt (X0 L (mndP (Lz L 9) l 0 P)) := Int.natCast_nonneg _
      have hcx : cnt (XP L W (X0 L (mndP (Lz L 9) l 0 P))) = cnt (X0 L (mndP (Lz L 9) l 0 P)) := rfl
      rw [hX.2.2.2.1]
      refine ⟨by omega, ?_⟩
      unfold fitP at hQ
      by_cases q0 : cnt (X0 L (mndP (Lz L 9) l 0 P)) = 0
      · rw [if_pos q0]
        rw [decide_eq_false (by omega), Bool.false_and] at hQ
        exact ⟨_, rfl, hQ M1 gg⟩
      · rw [if_neg q0]
        rw [decide_eq_true (by omega), Bool.true_and] at hQ
        refine m238 hX ⟨rfl, rfl⟩ (X0_g L _ (by omega)) (fun M2 g2 hPX => ?_)
        exact mGood hPX _ _ _ ⟨_, rfl, hQ M2 (gg.tr (frm35 (fun k a _ => g2 k a)))⟩
    | succ n ih =>
      intro t acc R N ht hR hmem g f h69 hrow he
      have ff : FrM M N := frmL (fun k a b _ _ => g k a b) (fun j a _ => f j a)
      have hN := h.fr ff
      rw [if_pos (by omega)] at he
      have e64 : N 204 64 = 232 := hN.1.1.at (by decide)
      have e44 : N 204 44 = Lz L 9 := hN.1.2.2.2.1.2.2.2.1
      have totlen : acc.length + (mndP (Lz L 9) (l.drop t) t R).length ≤ 12 := by
        have := congrArg List.length he
        rw [List.length_append, full] at this
        omega
      have tb := bit t (by omega) (by omega)
      have ex : (((l.length + 1 : Nat) : Int) - 1 - t).toNat = ((l.length : Int) - t).toNat := by omega
      rw [ex] at tb
      have dcl : t < l.length → l.drop t = gi l t :: l.drop (t + 1) := fun z => drop_cons z
      -- one sound more lies there
      have put : ∀ (N' : Mem) (acc' : List Int) (a : Int), (∀ k : Int, k ≠ 204 → k ≠ 232 → N' k = M k) → (∀ j : Int, j ≠ 69 → N' 204 j = M 204 j) → N' 204 69 = acc'.length → (∀ j : Int, 0 ≤ j → j < acc'.length → N' 232 j = gi acc' j) → (∀ k : Int, k ≠ 204 → k ≠ 232 → upM (upM N' 232 acc'.length a) 204 69 ((acc'.length : Int) + 1) k = M k) ∧ (∀ j : Int, j ≠ 69 → upM (upM N' 232 acc'.length a) 204 69 ((acc'.length : Int) + 1) 204 j = M 204 j) ∧ upM (upM N' 232 acc'.length a) 204 69 ((acc'.length : Int) + 1) 204 69 = (acc' ++ [a]).length ∧ (∀ j : Int, 0 ≤ j → j < (acc' ++ [a]).length → upM (upM N' 232 acc'.length a) 204 69 ((acc'.length : Int) + 1) 232 j = gi (acc' ++ [a]) j) := by
        intro N' acc' a g' f' h69' hrow'
        refine ⟨fun k x y => by rw [upM_o x, upM_o y]; exact g' k x y, fun j x => by rw [upM_f x, upM_o (by decide)]; exact f' j x, by rw [upM_s, List.length_append]; rfl, fun j x y => ?_⟩
        rw [upM_o (by decide), gi_app x]
        rw [List.length_append, List.length_singleton] at y
        by_cases z : j = acc'.length
        · rw [z, upM_s, if_neg (by omega), Int.sub_self]
          rfl
        · rw [upM_f z, if_pos (by omega)]
          exact hrow' j x (by omega)
      refine t_263_14 o204 ⟨by omega, by omega, ?_⟩
      rw [if_neg (by omega), and32_1, e64, e44, h69]
      refine ⟨⟨by omega, by omega, by omega, by omega⟩, by omega, ?_⟩
      rcases VP_hd hR hmem with ⟨R', eR, hin, hR', hm'⟩ | ⟨hout, hR', hm', hne⟩
      · rw [if_pos (tb.mpr hin)]
        rw [eR] at he totlen
        have la : acc.length < 12 := by
          by_cases z : t < l.length
          · rw [dcl z, mndP, if_pos rfl, List.length_cons] at totlen
            omega
          · rw [List.drop_eq_nil_of_le (by omega), mndP, if_pos rfl, List.length_singleton] at totlen
            omega
        refine ⟨gC zC.1 (by omega) (by show _ < ((12 : Nat) : Int); omega), ?_⟩
        have e69 : upM N 232 acc.length (Lz L 9) 204 69 = acc.length := by rw [upM_o (by decide)]; exact h69
        rw [e69]
        obtain ⟨p1, p2, p3, p4⟩ := put N acc (Lz L 9) g f h69 hrow
        by_cases z : t < l.length
        · rw [if_neg (by omega)]
          have hN2 := h.fr (frmL (fun k a b _ _ => p1 k a b) (fun j a _ => p2 j a))
          rw [m222 hN2.1.1 hN2.2.1 hN2.2.2.1 hd (by omega) (by omega)]
          have e642 : upM (upM N 232 acc.length (Lz L 9)) 204 69 ((acc.length : Int) + 1) 204 64 = 232 := hN2.1.1.at (by decide)
          rw [e642, p3]
          rw [dcl z, mndP, if_pos rfl] at he totlen
          rw [List.length_cons, List.length_cons] at totlen
          have e693 : ∀ v : Int, upM (upM (upM N 232 acc.length (Lz L 9)) 204 69 ((acc.length : Int) + 1)) 232 (acc ++ [Lz L 9]).length v 204 69 = (acc ++ [Lz L 9]).length := fun v => by rw [upM_o (by decide)]; exact p3
          rw [e693]
          obtain ⟨r1, r2, r3, r4⟩ := put _ (acc ++ [Lz L 9]) (gi l t) p1 p2 p3 p4
          refine ⟨gC zC.1 (by omega) (by rw [List.length_append, List.length_singleton]; show _ < ((12 : Nat) : Int); omega), ih (t + 1) (acc ++ [Lz L 9] ++ [gi l t]) R' _ (by omega) hR' hm' r1 r2 r3 r4 ?_⟩
          rw [if_pos (by omega), List.append_assoc, List.append_assoc]
          exact he
        · rw [if_pos (by omega)]
          refine ih (t + 1) (acc ++ [Lz L 9]) R' _ (by omega) hR' hm' p1 p2 p3 p4 ?_
          rw [if_neg (by omega)]
          rw [List.drop_eq_nil_of_le (by omega), mndP, if_pos rfl] at he
          exact he
      · rw [if_neg (fun z => hout (tb.mp z))]
        have estep : t < l.length → mndP (Lz L 9) (gi l t :: l.drop (t + 1)) t R = gi l t :: mndP (Lz L 9) (l.drop (t + 1)) ((t : Int) + 1) R := fun _ => by
          cases R with
          | nil => rw [mndP]
          | cons q Q' => rw [mndP, if_neg (hne q Q' rfl)]
        by_cases z : t < l.length
        · rw [if_neg (by omega), m222 hN.1.1 hN.2.1 hN.2.2.1 hd (by omega) (by omega)]
          rw [dcl z, estep z] at he totlen
          rw [List.length_cons] at totlen
          have e69 : upM N 232 acc.length (gi l t) 204 69 = acc.length := by rw [upM_o (by decide)]; exact h69
          rw [e69]
          obtain ⟨p1, p2, p3, p4⟩ := put N acc (gi l t) g f h69 hrow
          refine ⟨gC zC.1 (by omega) (by show _ < ((12 : Nat) : Int); omega), ih (t + 1) (acc ++ [gi l t]) R _ (by omega) hR' hm' p1 p2 p3 p4 ?_⟩
          rw [if_pos (by omega), List.append_assoc]
          exact he
        · rw [if_pos (by omega)]
          refine ih (t + 1) acc R N (by omega) hR' hm' g f h69 hrow ?_
          rw [if_neg (by omega)]
          rw [List.drop_eq_nil_of_le (by omega)] at he
          have e0 : mndP (Lz L 9) [] t R = [] := by
            cases R with
            | nil => rw [mndP]
            | cons q Q' => rw [mndP, if_neg (hne q Q' rfl)]
          rw [e0, List.append_nil] at he
          exact he
  refine t_263 o204 ?_
  rw [m221 h.1.1 h.2.1 h.2.2.1 hd]
  exact key (l.length + 1) 0 [] P _ (by omega) hP0 (fun x => ⟨fun z => ⟨z, (VP_mem hP0 x z).1⟩, fun z => z.1⟩) (fun k a _ => upM_o a) (fun j a => upM_f a) upM_s (fun j a b => absurd b (by show ¬ j < 0; omega)) (by rw [if_pos (by omega), List.drop_zero]; rfl)
theorem m265 {Q : Int → Mem → Prop} (h : MdlQ M L W S c) (hd : WdIs W S w l) (hhelp : 0 ≤ Lz L 9) (hQ : ∀ M' : Mem, FrM M M' → Q (match mendL L W l with | some P => vl (l.length + 1) P | none => -1) M') : WI 265 [vR 204, vI w] M Q := by
  have hok := (hd.ok h.2.1 h.2.2.1).1
  have h12 := hok.2.1
  have b13 := p2_le (show l.length + 1 ≤ 13 by omega)
  rw [show (2 : Int) ^ 13 = 8192 from rfl] at b13
  have hmost : mostP l ≤ l.length + 1 ∧ mostP l + l.length ≤ 12 := by unfold mostP; omega
  have hmost2 : mostP l = l.length + 1 ∨ mostP l + l.length = 12 := by unfold mostP; omega
  have epw : (2 : Int) * 2 ^ l.length = (2 : Int) ^ (l.length + 1) := by rw [Int.pow_succ, Int.mul_comm]
  have em : ((l.length + 1 : Nat) : Int) = (l.length : Int) + 1 := rfl
  -- the sets from one downwards, none of which is it
  have lp : ∀ (n k : Nat) (l4 : Option AV) (N : Mem), k + n = 13 - l.length → FrM M N → (∀ M' : Mem, FrM M M' → Q (match (if k ≤ mostP l then seekP (fitP L W l) (l.length + 1) (mostP l + 1 - k) k else none) with | some P => vl (l.length + 1) P | none => -1) M') → WR 265 8 [some (vR 204), some (vI w), some (vI l.length), some (vI k), l4] [] N (fun r M' => ∃ x, r = vI x ∧ Q x M') := by
    intro n
    induction n with
    | zero =>
      intro k l4 N hk g hQ
      refine t_265_8 o204 ⟨by omega, by omega, ?_⟩
      rw [if_pos (by omega)]
      have := hQ N g
      rw [if_neg (by omega)] at this
      exact ⟨_, rfl, this⟩
    | succ n ih =>
      intro k l4 N hk g hQ
      refine t_265_8 o204 ⟨by omega, by omega, ?_⟩
      rw [if_neg (by omega), Int.toNat_natCast, epw]
      refine ⟨⟨by omega, by omega⟩, ?_⟩
      have down : ∀ (a : Nat) (N : Mem) (nx : Option (List Int)), (a : Int) ≤ (2 : Int) ^ (l.length + 1) → FrM M N → (∀ P, nx = some P → VP (l.length + 1) 0 P ∧ P.length = k ∧ fitP L W l P = true ∧ vl (l.length + 1) P < a ∧ (∀ R, VP (l.length + 1) 0 R → R.length = k → vl (l.length + 1) P < vl (l.length + 1) R → ¬ fitP L W l R = true) ∧ ∀ M' : Mem, FrM M M' → Q (vl (l.length + 1) P) M') → (nx = none → (∀ R, VP (l.length + 1) 0 R → R.length = k → ¬ fitP L W l R = true) ∧ ∀ (x4 : Int) (N : Mem), FrM M N → WR 265 8 [some (vR 204), some (vI w), some (vI l.length), some (vI ((k : Int) + 1)), some (vI x4)] [] N (fun r M' => ∃ x, r = vI x ∧ Q x M')) → WR 265 23 [some (vR 204), some (vI w), some (vI l.length), some (vI k), some (vI ((a : Int) - 1))] [] N (fun r M' => ∃ x, r = vI x ∧ Q x M') := by
        intro a
        induction a with
        | zero =>
          intro N nx ha g hs hn
          refine t_265_23 o204 ⟨by omega, ?_⟩
          rw [if_pos (by omega)]
          cases nx with
          | some P =>
            have := (hs P rfl).2.2.2.1
            have := vl_nn (l.length + 1) P
            omega
          | none => exact (hn rfl).2 _ N g
        | succ a iha =>
          intro N nx ha g hs hn
          have ea : ((a + 1 : Nat) : Int) - 1 = a := by omega
          rw [ea]
          have hv := PL_ok (l.length + 1) (a : Int)
          have hvl := PL_vl (l.length + 1) (a : Int) (by omega) (by omega)
          rw [em] at hv hvl
          have hl13 := VP_len _ 0 hv (by omega)
          refine t_265_23 o204 ⟨by omega, ?_⟩
          rw [if_neg (by omega), m264 (m := l.length + 1) (by omega) (by omega) (by omega)]
          refine ⟨by omega, by omega, ?_⟩
          -- this set is not it
          have next : ∀ N : Mem, FrM M N → ¬ ((PL (l.length + 1) (a : Int)).length = k ∧ fitP L W l (PL (l.length + 1) (a : Int)) = true) → WR 265 23 [some (vR 204), some (vI w), some (vI l.length), some (vI k), some (vI ((a : Int) + (-1)))] [] N (fun r M' => ∃ x, r = vI x ∧ Q x M') := fun N g hno => by
            rw [show (a : Int) + (-1) = (a : Int) - 1 by omega]
            refine iha N nx (by omega) g (fun P e => ?_) hn
            obtain ⟨v, lk, ft, lt, mx, q⟩ := hs P e
            refine ⟨v, lk, ft, ?_, mx, q⟩
            rcases Int.lt_or_eq_of_le (show vl (l.length + 1) P ≤ a by omega) with z | z
            · exact z
            · exfalso
              have ep := vl_inj P (PL (l.length + 1) (a : Int)) 0 v hv
              by_cases y : (PL (l.length + 1) (a : Int)).length = P.length
              · have := ep y.symm (by rw [z, hvl])
                rw [← this] at hno
                exact hno ⟨lk, ft⟩
              · -- two rows of places with one number
                have gen : ∀ (A B : List Int) (lo : Int), VP (l.length + 1) lo A → VP (l.length + 1) lo B → vl (l.length + 1) A = vl (l.length + 1) B → A.length = B.length := by
                  intro A
                  induction A with
                  | nil =>
                    intro B lo _ vB e
                    cases B with
                    | nil => rfl
                    | cons b r =>
                      have := p2_pos ((l.length : Int) + 1 - 1 - b).toNat
                      have := vl_nn (l.length + 1) r
                      have e' : (0 : Int) = (2 : Int) ^ ((l.length : Int) + 1 - 1 - b).toNat + vl (l.length + 1) r := e
                      omega
                  | cons x r ihA =>
                    intro B lo vA vB e
                    cases B with
                    | nil =>
                      have := p2_pos ((l.length : Int) + 1 - 1 - x).toNat
                      have := vl_nn (l.length + 1) r
                      have e' : (2 : Int) ^ ((l.length : Int) + 1 - 1 - x).toNat + vl (l.length + 1) r = 0 := e
                      omega
                    | cons b t =>
                      rcases Int.lt_trichotomy x b with c1 | c1 | c1
                      · have := vl_cons (f := x) (q := b) (r := t) (m := l.length + 1) ⟨by omega, vB.2.1, vB.2.2⟩ r
                        omega
                      · subst c1
                        have e2 : (2 : Int) ^ ((l.length : Int) + 1 - 1 - x).toNat + vl (l.length + 1) r = (2 : Int) ^ ((l.length : Int) + 1 - 1 - x).toNat + vl (l.length + 1) t := e
                        rw [List.length_cons, List.length_cons, ihA t (x + 1) vA.2.2 vB.2.2 (by omega)]
                      · have := vl_cons (f := b) (q := x) (r := r) (m := l.length + 1) ⟨by omega, vA.2.1, vA.2.2⟩ t
                        omega
                exact y (gen _ _ 0 hv v (by rw [hvl, z]))
          by_cases q1 : ((PL (l.length + 1) (a : Int)).length : Int) = k
          · rw [if_pos q1]
            refine m263 (h.fr g) hd (by omega) (by omega) (by omega) hhelp (fun M1 g1 => ?_)
            have gg := g.tr g1
            refine ⟨by have := b2i_r (fitP L W l (PL (l.length + 1) (a : Int))); omega, ?_⟩
            cases hf : fitP L W l (PL (l.length + 1) (a : Int))
            · rw [if_pos (by decide)]
              exact next M1 gg (fun z => by rw [hf] at z; exact absurd z.2 (by decide))
            · rw [if_neg (by decide)]
              cases nx with
              | none => exact absurd hf ((hn rfl).1 _ hv (by omega))
              | some P =>
                obtain ⟨v, lk, ft, lt, mx, q⟩ := hs P rfl
                have : vl (l.length + 1) P = a := by
                  rcases Int.lt_trichotomy (vl (l.length + 1) P) a with z | z | z
                  · exact absurd hf (mx _ hv (by omega) (by rw [hvl]; exact z))
                  · exact z
                  · omega
                have := q M1 gg
                rename_i e1
                rw [e1] at this
                exact ⟨_, rfl, this⟩
          · rw [if_neg q1]
            exact next N g (fun z => q1 (by omega))
      have ea : (2 : Int) ^ (l.length + 1) = (((2 : Int) ^ (l.length + 1)).toNat : Int) := by have := p2_pos (l.length + 1); omega
      rw [ea]
      by_cases q : k ≤ mostP l
      · rw [if_pos q] at hQ
        rw [show mostP l + 1 - k = (mostP l - k) + 1 by omega, seekP_s] at hQ
        have vu := upP_ok (m := (l.length : Int) + 1) k 0 (by omega)
        have vu1 := vl_lt (upP 0 k) 0 vu
        rw [show ((l.length : Int) + 1 - 0).toNat = l.length + 1 by omega] at vu1
        obtain ⟨so1, so2⟩ := srch_ok (fit := fitP L W l) 100000 (upP 0 k) vu (by omega)
        rw [upP_len] at so1 so2
        have mx : ∀ R, VP ((l.length : Int) + 1) 0 R → R.length = k → vl (l.length + 1) R ≤ vl (l.length + 1) (upP 0 k) := fun R vR' lR => by
          have := vl_max R 0 vR'
          rw [lR] at this
          exact this
        refine down _ N (srch (fitP L W l) (l.length + 1) 100000 (upP 0 k)) (by omega) g (fun P e => ?_) (fun e => ?_)
        · obtain ⟨r1, r2, r3, r4⟩ := so1 P e
          rw [e] at hQ
          exact ⟨r1, r2, r3, by have := mx P r1 r2; omega, fun R v lR hlt => r4 R v lR hlt (mx R v lR), hQ⟩
        · rw [e] at hQ
          refine ⟨fun R v lR => so2 e R v lR (mx R v lR), fun x4 N' g' => ?_⟩
          refine ih (k + 1) _ N' (by omega) g' (fun M' gM => ?_)
          have := hQ M' gM
          by_cases q2 : k + 1 ≤ mostP l
          · rw [if_pos q2, show mostP l + 1 - (k + 1) = mostP l - k by omega]
            exact this
          · rw [if_neg q2]
            rw [show mostP l - k = 0 by omega] at this
            exact this
      · rw [if_neg q] at hQ
        refine down _ N none (by omega) g (fun P e => by cases e) (fun _ => ⟨fun R v lR => ?_, fun x4 N' g' => ?_⟩)
        · have := VP_len R 0 v (by omega)
          omega
        · refine ih (k + 1) _ N' (by omega) g' (fun M' gM => ?_)
          rw [if_neg (by omega)]
          exact hQ M' gM
  refine t_265 o204 ?_
  rw [m221 h.1.1 h.2.1 h.2.2.1 hd]
  refine lp (13 - l.length) 0 _ M (by omega) FrM.rf (fun M' g => ?_)
  rw [if_pos (Nat.zero_le _)]
  exact hQ M' g
theorem mMend {Q : Int → Mem → Prop} (h : MdlQ M L W S c) (hw : inR w) (hi : inR i) (hQ : ∀ M' : Mem, FrM M M' → Q (aMend L W S w i) M') : WI 266 [vR 204, vI w, vI i] M Q := by
  have hz := h.1.2.2.2.2.2.2
  unfold WfZ at hz
  have hz9 := hz.2.2.2.2.2.2.2.2.2.1
  have n16 := h.1.2.2.2.2.1.1
  unfold aMend at hQ
  refine t_266 o204 ?_
  rw [m219 h hw]
  cases e : wd W S w with
  | none =>
    rw [e] at hQ
    exact ⟨by decide, by rw [show b2i (Option.isSome (none : Option (List Int))) = 0 from rfl, if_pos rfl]; exact ⟨_, rfl, hQ M FrM.rf⟩⟩
  | some l =>
    rw [e] at hQ
    dsimp only at hQ
    have hd := wd_is e
    have hok := (hd.ok h.2.1 h.2.2.1).1
    have h12 := hok.2.1
    have b13 := p2_le (show l.length + 1 ≤ 13 by omega)
    rw [show (2 : Int) ^ 13 = 8192 from rfl] at b13
    rw [show b2i (Option.isSome (some l)) = 1 from rfl, if_neg (by decide), h.1.2.2.2.1.2.2.2.1]
    refine ⟨by decide, by omega, ?_⟩
    by_cases q0 : Lz L 9 = -1
    · rw [if_pos q0] at hQ ⊢
      exact ⟨_, rfl, hQ M FrM.rf⟩
    rw [if_neg q0] at hQ ⊢
    refine m265 h hd (by omega) (fun M1 g1 => ?_)
    have fin := hQ M1 g1
    cases hm : mendL L W l with
    | none =>
      rw [hm] at fin
      dsimp only
      refine ⟨by decide, ?_⟩
      rw [if_pos rfl]
      exact ⟨_, rfl, fin⟩
    | some P =>
      rw [hm] at fin
      dsimp only at fin ⊢
      have hV := seek_ok (fit := fitP L W l) (m := l.length + 1) (by omega) (mostP l + 1) 0 P hm (by unfold mostP; omega)
      have hl := VP_len P 0 hV (by omega)
      have v0 := vl_nn (l.length + 1) P
      have v1 := vl_lt P 0 hV
      rw [show ((l.length : Int) + 1 - 0).toNat = l.length + 1 by omega] at v1
      have hv := PL_ok (l.length + 1) (vl (l.length + 1) P)
      have hvl := PL_vl (l.length + 1) (vl (l.length + 1) P) v0 v1
      rw [show ((l.length + 1 : Nat) : Int) = (l.length : Int) + 1 from rfl] at hv hvl
      -- the number tells just these places
      have gen : ∀ (A B : List Int) (lo : Int), VP ((l.length : Int) + 1) lo A → VP ((l.length : Int) + 1) lo B → vl (l.length + 1) A = vl (l.length + 1) B → A = B := by
        intro A
        induction A with
        | nil =>
          intro B lo _ vB e
          cases B with
          | nil => rfl
          | cons b r =>
            have := p2_pos ((l.length : Int) + 1 - 1 - b).toNat
            have := vl_nn (l.length + 1) r
            have e' : (0 : Int) = (2 : Int) ^ ((l.length : Int) + 1 - 1 - b).toNat + vl (l.length + 1) r := e
            omega
        | cons x r ihA =>
          intro B lo vA vB e
          cases B with
          | nil =>
            have := p2_pos ((l.length : Int) + 1 - 1 - x).toNat
            have := vl_nn (l.length + 1) r
            have e' : (2 : Int) ^ ((l.length : Int) + 1 - 1 - x).toNat + vl (l.length + 1) r = 0 := e
            omega
          | cons b t =>
            rcases Int.lt_trichotomy x b with c1 | c1 | c1
            · have := vl_cons (f := x) (q := b) (r := t) (m := (l.length : Int) + 1) ⟨by omega, vB.2.1, vB.2.2⟩ r
              omega
            · subst c1
              have e2 : (2 : Int) ^ ((l.length : Int) + 1 - 1 - x).toNat + vl (l.length + 1) r = (2 : Int) ^ ((l.length : Int) + 1 - 1 - x).toNat + vl (l.length + 1) t := e
              rw [ihA t (x + 1) vA.2.2 vB.2.2 (by omega)]
            · have := vl_cons (f := b) (q := x) (r := r) (m := (l.length : Int) + 1) ⟨by omega, vA.2.1, vA.2.2⟩ t
              omega
      have ePL : PL (l.length + 1) (vl (l.length + 1) P) = P := gen _ _ 0 hv hV hvl
      have bit := fun p : Int => PL_bit (l.length + 1) (vl (l.length + 1) P) p v0
      rw [ePL] at bit
      refine ⟨by omega, ?_⟩
      rw [if_neg (by omega)]
      refine ⟨hi, ?_⟩
      have h1 := h.fr g1
      by_cases q1 : i = -1
      · rw [if_pos q1] at fin ⊢
        rw [m264 (m := l.length + 1) (by omega) v0 v1, ePL]
        exact ⟨_, rfl, fin⟩
      rw [if_neg q1] at fin ⊢
      by_cases q2 : i < 0
      · rw [if_pos q2] at fin
        rw [if_neg (by omega)]
        exact ⟨_, rfl, fin⟩
      rw [if_neg q2] at fin
      rw [if_pos (by omega), m221 h1.1.1 h1.2.1 h1.2.2.1 hd]
      have key : ∀ (n t : Nat) (R : List Int) (left : Int), t + n = l.length + 1 → 0 ≤ left → inR left → VP ((l.length : Int) + 1) t R → (∀ x, x ∈ R ↔ (x ∈ P ∧ (t : Int) ≤ x)) → gi R left = gi P i → WR 266 64 [some (vR 204), some (vI w), some (vI i), some (vI (vl (l.length + 1) P)), some (vI left), some (vI l.length), some (vI t)] [] M1 (fun r M' => ∃ x, r = vI x ∧ Q x M') := by
        intro n
        induction n with
        | zero =>
          intro t R left ht l0 lr hR hmem hg
          refine t_266_64 o204 ⟨by omega, by omega, ?_⟩
          rw [if_pos (by omega)]
          have e0 : R = [] := by
            have := VP_len R t hR (by omega)
            exact List.length_eq_zero_iff.mp (by omega)
          rw [e0, gi_out (l := []) (Or.inr (by show (0 : Int) ≤ left; exact l0))] at hg
          rw [← hg] at fin
          exact ⟨_, rfl, fin⟩
        | succ n ih =>
          intro t R left ht l0 lr hR hmem hg
          have tb := bit t (by omega) (by omega)
          have ex : (((l.length + 1 : Nat) : Int) - 1 - t).toNat = ((l.length : Int) - t).toNat := by omega
          rw [ex] at tb
          refine t_266_64 o204 ⟨by omega, by omega, ?_⟩
          rw [if_neg (by omega), and32_1]
          refine ⟨⟨by omega, by omega, by omega, by omega⟩, by omega, ?_⟩
          rcases VP_hd hR hmem with ⟨R', eR, hin, hR', hm'⟩ | ⟨hout, hR', hm', hne⟩
          · have b1 := tb.mpr hin
            rw [if_neg (by omega)]
            refine ⟨lr, ?_⟩
            rw [eR] at hg
            by_cases z : left = 0
            · rw [if_pos z]
              rw [z, gi_cons0] at hg
              rw [← hg] at fin
              exact ⟨_, rfl, fin⟩
            · rw [if_neg z]
              rw [gi_consS (by omega)] at hg
              exact ih (t + 1) R' (left + (-1)) (by omega) (by omega) (by omega) hR' hm' (by rw [← hg]; congr 1)
          · rw [if_pos (by have : ¬ _ = _ := fun z => hout (tb.mp z); omega)]
            exact ih (t + 1) R left (by omega) l0 lr hR' hm' hg
      exact key (l.length + 1) 0 P i (by omega) (by omega) hi hV (fun x => ⟨fun z => ⟨z, (VP_mem hV x z).1⟩, fun z => z.1⟩) rfl
end MM
