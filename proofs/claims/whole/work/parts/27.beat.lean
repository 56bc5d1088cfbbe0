/-! MISFITS and BEAT, on both sides. -/
theorem lay_no_pk {L : Lw} : ∀ (l : List Int) (i : Nat), (lay L i l = [] ↔ hasPk L l = false)
  | [], i => ⟨fun _ => rfl, fun _ => rfl⟩
  | a :: r, i => by
    have e : hasPk L (a :: r) = (pkn L a || hasPk L r) := rfl
    rw [e]
    cases hp : pkn L a
    · rw [lay_no hp, Bool.false_or]
      exact lay_no_pk r (i + 1)
    · rw [Bool.true_or]
      refine ⟨fun h => ?_, fun h => by cases h⟩
      cases hl : longH L a (gi r 0)
      · rw [lay_1 hp hl] at h
        cases h
      · cases r with
        | nil => rw [show gi [] 0 = -1 from rfl, longH_out] at hl; cases hl
        | cons b r' =>
          replace hl : longH L a b = true := hl
          rw [lay_2 hp hl] at h
          cases h
theorem cnt_pk {L : Lw} {l : List Int} : cnt (X0 L l) = 0 ↔ hasPk L l = false := by
  have e : cnt (X0 L l) = (lay L 0 l).length := rfl
  rw [e, ← lay_no_pk l 0]
  constructor
  · intro h
    exact List.length_eq_zero_iff.mp (by omega)
  · intro h
    rw [h]
    rfl
def hasSyl (L : Lw) (S : List (List Int)) : Bool := S.any (hasPk L)
def stL (L : Lw) (X : Ct) : Int := if cnt X = 0 then -1 else strs L X
def mfS (n f st : Int) : Nat → Int → Int → Int
  | 0, _, _ => 0
  | m + 1, i, num => (if (num - f).tmod n = 0 then (if i = st then 0 else 1) else (if i = st then 1 else 0)) + mfS n f st m (i + 1) (num + 1)
theorem mfS_s (n f st : Int) (m : Nat) (i num : Int) : mfS n f st (m + 1) i num = (if (num - f).tmod n = 0 then (if i = st then 0 else 1) else (if i = st then 1 else 0)) + mfS n f st m (i + 1) (num + 1) := rfl
def mfA (L : Lw) (W S : List (List Int)) (n f : Int) : Nat → Int → Int → Int
  | 0, _, _ => 0
  | m + 1, k, num => mfS n f (stL L (XPk L W S k)) (XPk L W S k).2.1.length 0 num + mfA L W S n f m (k + 1) (num + cnt (XPk L W S k))
theorem mfA_s (L : Lw) (W S : List (List Int)) (n f : Int) (m : Nat) (k num : Int) : mfA L W S n f (m + 1) k num = mfS n f (stL L (XPk L W S k)) (XPk L W S k).2.1.length 0 num + mfA L W S n f m (k + 1) (num + cnt (XPk L W S k)) := rfl
def mfT (L : Lw) (W S : List (List Int)) (n f : Int) : Int := mfA L W S n f S.length 0 0
def aMis (L : Lw) (W S : List (List Int)) (n f : Int) : Int := if (2 ≤ n ∧ n ≤ 4) ∧ (0 ≤ f ∧ f < n) then (if hasSyl L S = true then mfT L W S n f else -1) else -1
def btI (g : Int → Int) (n : Int) : Nat → Int → Int × Int × Int → Int × Int × Int
  | 0, _, s => s
  | m + 1, f, s => btI g n m (f + 1) (if s.2.2 = -1 ∨ g f < s.2.2 then (n, f, g f) else s)
theorem btI_s (g : Int → Int) (n : Int) (m : Nat) (f : Int) (s : Int × Int × Int) : btI g n (m + 1) f s = btI g n m (f + 1) (if s.2.2 = -1 ∨ g f < s.2.2 then (n, f, g f) else s) := rfl
def btO (g : Int → Int → Int) : Nat → Int → Int × Int × Int → Int × Int × Int
  | 0, _, s => s
  | m + 1, n, s => btO g m (n + 1) (btI (g n) n n.toNat 0 s)
theorem btO_s (g : Int → Int → Int) (m : Nat) (n : Int) (s : Int × Int × Int) : btO g (m + 1) n s = btO g m (n + 1) (btI (g n) n n.toNat 0 s) := rfl
def btT (L : Lw) (W S : List (List Int)) : Int × Int × Int := btO (mfT L W S) 3 2 (0, 0, -1)
def aBeat (L : Lw) (W S : List (List Int)) (what : Int) : Int := if 0 ≤ what ∧ what ≤ 2 then (if hasSyl L S = true then (if what = 0 then (btT L W S).1 else if what = 1 then (btT L W S).2.1 else (btT L W S).2.2) else -1) else -1
theorem mfS_r (n f st : Int) : ∀ (m : Nat) (i num : Int), 0 ≤ mfS n f st m i num ∧ mfS n f st m i num ≤ m
  | 0, _, _ => ⟨Int.le_refl _, Int.le_refl _⟩
  | m + 1, i, num => by
    have := mfS_r n f st m (i + 1) (num + 1)
    rw [mfS_s]
    split <;> split <;> omega
theorem mfA_r (L : Lw) (W S : List (List Int)) (n f : Int) (hS : ∀ i : Nat, i < S.length → (S.getD i []).length ≤ 12) : ∀ (m : Nat) (k num : Int), 0 ≤ k → k + m ≤ S.length → 0 ≤ mfA L W S n f m k num ∧ mfA L W S n f m k num ≤ 12 * m
  | 0, _, _, _, _ => ⟨Int.le_refl _, Int.le_refl _⟩
  | m + 1, k, num, h0, h1 => by
    have h2 := mfA_r L W S n f hS m (k + 1) (num + cnt (XPk L W S k)) (by omega) (by omega)
    have h3 := mfS_r n f (stL L (XPk L W S k)) (XPk L W S k).2.1.length 0 num
    have h4 := (X0_h L _ (hS k.toNat (by omega))).1
    have h5 : cnt (X0 L (S.getD k.toNat [])) = (XPk L W S k).2.1.length := rfl
    rw [mfA_s]
    omega
section BT
variable {M : Mem} {p q n f what : Int} {L : Lw} {W S : List (List Int)} {c : Int → Int}
theorem ClsQ.w12 (h : ClsQ M p q L W S c) : ∀ i : Nat, i < S.length → (S.getD i []).length ≤ 12 := fun i hi => (h.2.2.1.2.2.2.2.2 i hi).1.2.2.2.1
theorem MdlQ.w12 (h : MdlQ M L W S c) : ∀ i : Nat, i < S.length → (S.getD i []).length ≤ 12 := fun i hi => (h.2.2.1.2.2 i hi).2.2.2.1
theorem mfT_r (hS : ∀ i : Nat, i < S.length → (S.getD i []).length ≤ 12) (h8 : S.length ≤ 8) : 0 ≤ mfT L W S n f ∧ mfT L W S n f ≤ 96 := by
  have := mfA_r L W S n f hS S.length 0 0 (by omega) (by omega)
  unfold mfT
  omega
theorem s104 {Q : Int → Mem → Prop} (h : ClsQ M p q L W S c) : WI 104 [vR 14] M Q = Q (b2i (hasSyl L S)) M := by
  obtain ⟨oq, e1, e0, e2, l8⟩ := spk h
  have key : ∀ (n i : Nat) (l2 : Option AV) (P : AV → Mem → Prop), i + n = S.length → P (vI (b2i (hasSyl L (S.drop i)))) M → WR 104 2 [some (vR 14), some (vI i), l2] [] M P := by
    intro n
    induction n with
    | zero =>
      intro i l2 P hi hP
      refine t_104_2 o1.2 ?_
      rw [e1, e2]
      refine ⟨oq, by omega, by omega, ?_⟩
      rw [if_pos (by omega)]
      rw [List.drop_eq_nil_of_le (by omega)] at hP
      exact hP
    | succ n ih =>
      intro i l2 P hi hP
      obtain ⟨ra, -, el⟩ := wrd_at (Or.inr ⟨h.2.1, rfl⟩ : WrC q 8) h.2.2.1 (i := (i : Int)) (by omega) (by omega)
      have ra0 := ra.1.1
      have hlr := leadKey_r (L := L) ra.2.2.2.2.1 (by have := ra.2.2.2.1; omega)
      refine t_104_2 o1.2 ?_
      rw [e1, e2, s136 h.2.2.1 (by omega), if_pos (show 0 ≤ (i : Int) ∧ (i : Int) < S.length by omega), el]
      refine ⟨oq, by omega, by omega, ?_⟩
      rw [if_neg (by omega)]
      refine ⟨oq.2, by omega, ?_⟩
      rw [if_neg (by omega)]
      refine ⟨⟨ra0, by rw [ra.1.2.1]⟩, ⟨by omega, by decide⟩, cmp3_r _ _, ?_⟩
      have hd : S.drop i = S.getD i [] :: S.drop (i + 1) := by
        rw [List.getD_eq_getElem?_getD, List.getElem?_eq_getElem (by omega)]
        exact (List.getElem_cons_drop (by omega)).symm
      have es : hasSyl L (S.getD i [] :: S.drop (i + 1)) = (hasPk L (S.getD i []) || hasSyl L (S.drop (i + 1))) := List.any_cons
      rw [hd, es] at hP
      rw [Int.toNat_natCast] at hlr ⊢
      rw [Int.toNat_natCast] at ra
      cases hp : hasPk L (S.getD i [])
      · have ek : leadKey L (S.getD i []) = 0 := by unfold leadKey; rw [hp, if_neg (by decide)]
        rw [if_pos ((cmp3 _ _).mpr ek)]
        rw [hp, Bool.false_or] at hP
        exact ih (i + 1) _ P (by omega) hP
      · have ek : 1 ≤ leadKey L (S.getD i []) := by
          unfold leadKey
          rw [hp, if_pos rfl]
          exact key_pos (lead_dg ra.2.2.2.2.1).1
        rw [if_neg (fun z => by have := (cmp3 _ _).mp z; omega)]
        rw [hp, Bool.true_or] at hP
        exact hP
  exact FN.wi (WC.fn (t_104 o1.2 (key S.length 0 _ _ (by omega) ⟨by rw [List.drop_zero], rfl⟩)))
theorem s111 {Q : Int → Mem → Prop} (h : ClsQ M p q L W S c) (hn : 2 ≤ n ∧ n ≤ 4) (hf : 0 ≤ f ∧ f < 4) (hQ : ∀ M' : Mem, Fr M M' → Q (mfT L W S n f) M') : WI 111 [vR 14, vR p, vI n, vI f] M Q := by
  have h8 := (spk h).2.2.2.2
  have key : ∀ (m : Nat) (k num a : Int) (l7 l8 l9 l10 : Option AV) (N : Mem), 0 ≤ k → k + m = S.length → 0 ≤ num → num ≤ 12 * k → Fr M N → (∀ M' : Mem, Fr M M' → Q (a + mfA L W S n f m k num) M') → WR 111 9 [some (vR 14), some (vR p), some (vI n), some (vI f), some (vI num), some (vI a), some (vI k), l7, l8, l9, l10] [] N (fun r M' => ∃ x, r = vI x ∧ Q x M') := by
    intro m
    induction m with
    | zero =>
      intro k num a l7 l8 l9 l10 N k0 km n0 n1 g hQ
      obtain ⟨oq, e1, e0, e2, -⟩ := spk (h.fr g)
      refine t_111_9 o1.2 ?_
      rw [e1, e2]
      refine ⟨oq, by omega, by omega, ?_⟩
      rw [if_pos (by omega)]
      have := hQ N g
      rw [show mfA L W S n f 0 k num = 0 from rfl, Int.add_zero] at this
      exact ⟨_, rfl, this⟩
    | succ m ih =>
      intro k num a l7 l8 l9 l10 N k0 km n0 n1 g hQ
      obtain ⟨oq, e1, e0, e2, -⟩ := spk (h.fr g)
      refine t_111_9 o1.2 ?_
      rw [e1, e2]
      refine ⟨oq, by omega, by omega, ?_⟩
      rw [if_neg (by omega)]
      refine s106 (h.fr g) k0 (by omega) (fun M1 g1 hX => ⟨by decide, ?_⟩)
      have gg := g.tr g1.fr
      have e14 := (spk (h.fr gg)).2.2.1
      have h9 : M1 9 9 = cnt (XPk L W S k) := hX.1.2.2.2.1.2.2.2.2.2.1
      have hc := hX.1.2.2.2.2.1.1
      have hc0 : 0 ≤ cnt (XPk L W S k) := Int.natCast_nonneg _
      have hcl : cnt (XPk L W S k) = (XPk L W S k).2.1.length := rfl
      rw [mfA_s] at hQ
      have inner : ∀ (t : Nat) (i b : Int) (l10 : Option AV), 0 ≤ i → i + t = cnt (XPk L W S k) → (∀ M' : Mem, Fr M M' → Q (b + mfS n f (stL L (XPk L W S k)) t i (num + i) + mfA L W S n f m (k + 1) (num + cnt (XPk L W S k))) M') → inR (stL L (XPk L W S k)) → WR 111 65 [some (vR 14), some (vR p), some (vI n), some (vI f), some (vI (num + i)), some (vI b), some (vI k), some (vI (cnt (XPk L W S k))), some (vI (stL L (XPk L W S k))), some (vI i), l10] [] M1 (fun r M' => ∃ x, r = vI x ∧ Q x M') := by
        intro t
        induction t with
        | zero =>
          intro i b l10 i0 it hQ2 hst
          refine t_111_65 o1.2 ⟨by omega, by omega, ?_⟩
          rw [if_pos (by omega), show num + i = num + cnt (XPk L W S k) by omega]
          refine ih (k + 1) _ b _ _ _ _ M1 (by omega) (by omega) (by omega) (by omega) gg (fun M' g' => ?_)
          have := hQ2 M' g'
          rw [show mfS n f (stL L (XPk L W S k)) 0 i (num + i) = 0 from rfl, Int.add_zero] at this
          exact this
        | succ t iht =>
          intro i b l10 i0 it hQ2 hst
          have hm := Int.tmod_lt_of_pos (num + i - f) (show 0 < n by omega)
          have hm2 := Int.lt_tmod_of_pos (num + i - f) (show 0 < n by omega)
          refine t_111_65 o1.2 ⟨by omega, by omega, ?_⟩
          rw [mfS_s, ← Int.add_assoc, Int.add_assoc num i 1] at hQ2
          rw [if_neg (by omega), Int.add_assoc num i 1]
          refine ⟨by omega, ?_⟩
          rw [if_neg (by omega)]
          refine ⟨⟨by omega, by omega, by omega, by omega⟩, by omega, ?_⟩
          by_cases q1 : (num + i - f).tmod n = 0
          · rw [if_pos q1]
            rw [if_pos q1] at hQ2
            refine ⟨hst, ?_⟩
            by_cases q2 : i = stL L (XPk L W S k)
            · rw [if_pos q2]
              rw [if_pos q2] at hQ2
              exact iht (i + 1) _ _ (by omega) (by omega) hQ2 hst
            · rw [if_neg q2]
              rw [if_neg q2] at hQ2
              exact iht (i + 1) _ _ (by omega) (by omega) hQ2 hst
          · rw [if_neg q1]
            rw [if_neg q1] at hQ2
            refine ⟨hst, ?_⟩
            by_cases q2 : i = stL L (XPk L W S k)
            · rw [if_pos q2]
              rw [if_pos q2] at hQ2
              exact iht (i + 1) _ _ (by omega) (by omega) hQ2 hst
            · rw [if_neg q2]
              rw [if_neg q2] at hQ2
              exact iht (i + 1) _ _ (by omega) (by omega) hQ2 hst
      rw [if_neg (by decide), e14, h9]
      refine ⟨sh_cut.1, by omega, ?_⟩
      have go := inner (XPk L W S k).2.1.length 0 a l10 (by omega) (by omega) (fun M' g' => by
        have := hQ M' g'
        rw [← Int.add_assoc] at this
        rw [Int.add_zero]
        exact this)
      rw [Int.add_zero] at go
      by_cases q0 : cnt (XPk L W S k) ≤ 0
      · have es : stL L (XPk L W S k) = -1 := by unfold stL; rw [if_pos (by omega)]
        rw [es] at go
        rw [if_pos q0]
        exact go (by decide)
      · have es : stL L (XPk L W S k) = strs L (XPk L W S k) := by unfold stL; rw [if_neg (by omega)]
        have hs := strs_r (L := L) h.1.1.2.2.2.2.2 (XPk L W S k) (by omega)
        rw [es] at go
        rw [if_neg q0, s38 hX]
        exact ⟨sh9, go (by omega)⟩
  refine t_111 o1.2 (key S.length 0 0 0 _ _ _ _ M (by omega) (by omega) (by omega) (by omega) Fr.rf (fun M' g => ?_))
  rw [Int.zero_add]
  exact hQ M' g
theorem cMis {Q : Int → Mem → Prop} (h : ClsQ M p q L W S c) (hn : inR n) (hf : inR f) (hQ : ∀ M' : Mem, Fr M M' → Q (aMis L W S n f) M') : WI 165 [vR 1, vI n, vI f] M Q := by
  have p3 := h.2.2.2.2.2.2.2.1
  have p7 := h.2.2.2.2.2.2.2.2.2.2.2.1
  unfold aMis at hQ
  refine t_165 o1.1 ⟨hn, ?_⟩
  by_cases q : (2 ≤ n ∧ n ≤ 4) ∧ (0 ≤ f ∧ f < n)
  · rw [if_pos q] at hQ
    rw [if_neg (by omega), if_neg (by omega)]
    refine ⟨hf, ?_⟩
    rw [if_neg (by omega), if_neg (by omega), p3, s104 h]
    refine ⟨o1.2.2, by have := b2i_r (hasSyl L S); omega, ?_⟩
    cases hs : hasSyl L S
    · rw [hs, if_neg (by decide)] at hQ
      rw [if_pos (by decide)]
      exact ⟨_, rfl, hQ M Fr.rf⟩
    · rw [hs, if_pos rfl] at hQ
      rw [if_neg (by decide), p3, p7]
      exact ⟨o1.2.2, s111 h q.1 (by omega) (fun M' g => ⟨_, rfl, hQ M' g⟩)⟩
  · rw [if_neg q] at hQ
    have no := hQ M Fr.rf
    by_cases a1 : n < 2
    · rw [if_pos a1]; exact ⟨_, rfl, no⟩
    rw [if_neg a1]
    by_cases a2 : 4 < n
    · rw [if_pos a2]; exact ⟨_, rfl, no⟩
    rw [if_neg a2]
    refine ⟨hf, ?_⟩
    by_cases a3 : f < 0
    · rw [if_pos a3]; exact ⟨_, rfl, no⟩
    rw [if_neg a3, if_pos (by omega)]
    exact ⟨_, rfl, no⟩
theorem cBeat {Q : Int → Mem → Prop} (h : ClsQ M p q L W S c) (hw : inR what) (hQ : ∀ M' : Mem, Fr M M' → Q (aBeat L W S what) M') : WI 166 [vR 1, vI what] M Q := by
  have p3 := h.2.2.2.2.2.2.2.1
  unfold aBeat at hQ
  have w12 := h.w12
  have h8 := (spk h).2.2.2.2
  refine t_166 o1.1 ⟨hw, ?_⟩
  by_cases q1 : 0 ≤ what ∧ what ≤ 2
  rotate_left
  · rw [if_neg q1] at hQ
    have no := hQ M Fr.rf
    by_cases a1 : what < 0
    · rw [if_pos a1]; exact ⟨_, rfl, no⟩
    rw [if_neg a1, if_pos (by omega)]
    exact ⟨_, rfl, no⟩
  rw [if_pos q1] at hQ
  rw [if_neg (by omega), if_neg (by omega), p3, s104 h]
  refine ⟨o1.2.2, by have := b2i_r (hasSyl L S); omega, ?_⟩
  cases hs : hasSyl L S
  · rw [hs, if_neg (by decide)] at hQ
    rw [if_pos (by decide)]
    exact ⟨_, rfl, hQ M Fr.rf⟩
  rw [hs, if_pos rfl] at hQ
  rw [if_neg (by decide)]
  have key : ∀ (m : Nat) (n b1 b2 b3 : Int) (l6 l7 : Option AV) (N : Mem), 2 ≤ n → n + m = 5 → Fr M N → inR b3 → (∀ M' : Mem, Fr M M' → Q (if what = 0 then (btO (mfT L W S) m n (b1, b2, b3)).1 else if what = 1 then (btO (mfT L W S) m n (b1, b2, b3)).2.1 else (btO (mfT L W S) m n (b1, b2, b3)).2.2) M') → WR 166 31 [some (vR 1), some (vI what), some (vI b1), some (vI b2), some (vI b3), some (vI n), l6, l7] [] N (fun r M' => ∃ x, r = vI x ∧ Q x M') := by
    intro m
    induction m with
    | zero =>
      intro n b1 b2 b3 l6 l7 N n2 nm g hb hQ
      have fin := hQ N g
      refine t_166_31 o1.1 ⟨by omega, ?_⟩
      rw [if_pos (by omega)]
      refine ⟨hw, ?_⟩
      by_cases a0 : what = 0
      · rw [if_pos a0] at fin ⊢
        exact ⟨_, rfl, fin⟩
      rw [if_neg a0] at fin ⊢
      by_cases a1 : what = 1
      · rw [if_pos a1] at fin ⊢
        exact ⟨_, rfl, fin⟩
      · rw [if_neg a1] at fin ⊢
        exact ⟨_, rfl, fin⟩
    | succ m ih =>
      intro n b1 b2 b3 l6 l7 N n2 nm g hb hQ
      refine t_166_31 o1.1 ⟨by omega, ?_⟩
      rw [if_neg (by omega)]
      rw [btO_s] at hQ
      have inner : ∀ (t : Nat) (f b1 b2 b3 : Int) (l7 : Option AV) (N : Mem), 0 ≤ f → f + t = n → Fr M N → inR b3 → (∀ M' : Mem, Fr M M' → Q (if what = 0 then (btO (mfT L W S) m (n + 1) (btI (mfT L W S n) n t f (b1, b2, b3))).1 else if what = 1 then (btO (mfT L W S) m (n + 1) (btI (mfT L W S n) n t f (b1, b2, b3))).2.1 else (btO (mfT L W S) m (n + 1) (btI (mfT L W S n) n t f (b1, b2, b3))).2.2) M') → WR 166 40 [some (vR 1), some (vI what), some (vI b1), some (vI b2), some (vI b3), some (vI n), some (vI f), l7] [] N (fun r M' => ∃ x, r = vI x ∧ Q x M') := by
        intro t
        induction t with
        | zero =>
          intro f b1 b2 b3 l7 N f0 ft g hb hQ
          refine t_166_40 o1.1 ⟨by omega, by omega, ?_⟩
          rw [if_pos (by omega)]
          exact ih (n + 1) b1 b2 b3 _ _ N (by omega) (by omega) g hb hQ
        | succ t iht =>
          intro f b1 b2 b3 l7 N f0 ft g hb hQ
          have hN := h.fr g
          have p3 := hN.2.2.2.2.2.2.2.1
          have p7 := hN.2.2.2.2.2.2.2.2.2.2.2.1
          have hr := mfT_r (L := L) (W := W) (n := n) (f := f) w12 h8
          rw [btI_s] at hQ
          refine t_166_40 o1.1 ⟨by omega, by omega, ?_⟩
          rw [if_neg (by omega), p3, p7]
          refine ⟨o1.2.2, s111 hN (by omega) (by omega) (fun M1 g1 => ⟨hb, ?_⟩)⟩
          have gg := g.tr g1
          by_cases z1 : b3 = -1
          · rw [if_pos z1]
            rw [if_pos (Or.inl z1)] at hQ
            exact iht (f + 1) n f _ _ M1 (by omega) (by omega) gg (by omega) hQ
          rw [if_neg z1]
          refine ⟨by omega, ?_⟩
          by_cases z2 : b3 ≤ mfT L W S n f
          · rw [if_pos z2]
            rw [if_neg (show ¬ (b3 = -1 ∨ mfT L W S n f < b3) by omega)] at hQ
            exact iht (f + 1) b1 b2 b3 _ M1 (by omega) (by omega) gg hb hQ
          · rw [if_neg z2]
            rw [if_pos (Or.inr (by show mfT L W S n f < b3; omega))] at hQ
            exact iht (f + 1) n f _ _ M1 (by omega) (by omega) gg (by omega) hQ
      exact inner n.toNat 0 b1 b2 b3 _ N (by omega) (by omega) g hb hQ
  exact key 3 2 0 0 (-1) _ _ M (by omega) (by omega) Fr.rf (by decide) hQ
theorem m274 {Q : Int → Mem → Prop} (h : MdlQ M L W S c) (hQ : ∀ (M' : Mem) (x : Int), FrM M M' → inR x → (x = 0 ↔ hasSyl L S = false) → Q x M') : WI 274 [vR 204] M Q := by
  have h8 := h.2.2.1.2.1
  have key : ∀ (n i : Nat) (a : Int) (N : Mem), i + n = S.length → FrM M N → 0 ≤ a → a ≤ 12 * i → (∀ (M' : Mem) (x : Int), FrM M M' → inR x → (x = 0 ↔ (a = 0 ∧ hasSyl L (S.drop i) = false)) → Q x M') → WR 274 4 [some (vR 204), some (vI a), some (vI i)] [] N (fun r M' => ∃ x, r = vI x ∧ Q x M') := by
    intro n
    induction n with
    | zero =>
      intro i a N hi g a0 a1 hQ
      refine t_274_4 o204 ?_
      rw [(h.fr g).2.2.1.1]
      refine ⟨by omega, by omega, ?_⟩
      rw [if_pos (by omega)]
      refine ⟨_, rfl, hQ N a g (by omega) ?_⟩
      rw [List.drop_eq_nil_of_le (by omega)]
      exact ⟨fun z => ⟨z, rfl⟩, fun z => z.1⟩
    | succ n ih =>
      intro i a N hi g a0 a1 hQ
      have hN := h.fr g
      have hd : WdIs W S (i : Int) (S.getD (i : Int).toNat []) := Or.inl ⟨by omega, by omega, rfl⟩
      refine t_274_4 o204 ?_
      rw [hN.2.2.1.1]
      refine ⟨by omega, by omega, ?_⟩
      rw [if_neg (by omega)]
      refine m227 hN.1 hN.2.1 hN.2.2.1 hd (fun M1 g1 hX => ?_)
      have hc := hX.2.2.2.2.2.2.1.1
      have hc0 : 0 ≤ cnt (X0 L (S.getD (i : Int).toNat [])) := Int.natCast_nonneg _
      have hp := cnt_pk (L := L) (l := S.getD (i : Int).toNat [])
      rw [hX.2.2.2.1]
      rw [Int.toNat_natCast] at hc hc0 hp ⊢
      have hdr : S.drop i = S.getD i [] :: S.drop (i + 1) := by
        rw [List.getD_eq_getElem?_getD, List.getElem?_eq_getElem (by omega)]
        exact (List.getElem_cons_drop (by omega)).symm
      have es : hasSyl L (S.getD i [] :: S.drop (i + 1)) = (hasPk L (S.getD i []) || hasSyl L (S.drop (i + 1))) := List.any_cons
      rw [hdr, es] at hQ
      refine ih (i + 1) _ M1 (by omega) (g.tr g1) (by omega) (by omega) (fun M' x g' xr hx => hQ M' x g' xr ?_)
      rw [hx, Bool.or_eq_false_iff, ← hp]
      constructor
      · intro z; exact ⟨by omega, by omega, z.2⟩
      · intro z; exact ⟨by have := z.2.1; omega, z.2.2⟩
  refine t_274 o204 (key S.length 0 0 M (by omega) FrM.rf (by omega) (by omega) (fun M' x g xr hx => hQ M' x g xr ?_))
  rw [hx, List.drop_zero]
  exact ⟨fun z => z.2, fun z => ⟨rfl, z⟩⟩
theorem m275 {Q : Int → Mem → Prop} (h : MdlQ M L W S c) (hn : 2 ≤ n ∧ n ≤ 4) (hf : 0 ≤ f ∧ f < 4) (hQ : ∀ M' : Mem, FrM M M' → Q (mfT L W S n f) M') : WI 275 [vR 204, vI n, vI f] M Q := by
  have h8 := h.2.2.1.2.1
  have key : ∀ (m : Nat) (k num a : Int) (l6 l7 l8 : Option AV) (N : Mem), 0 ≤ k → k + m = S.length → 0 ≤ num → num ≤ 12 * k → FrM M N → (∀ M' : Mem, FrM M M' → Q (a + mfA L W S n f m k num) M') → WR 275 8 [some (vR 204), some (vI n), some (vI f), some (vI num), some (vI a), some (vI k), l6, l7, l8] [] N (fun r M' => ∃ x, r = vI x ∧ Q x M') := by
    intro m
    induction m with
    | zero =>
      intro k num a l6 l7 l8 N k0 km n0 n1 g hQ
      refine t_275_8 o204 ?_
      rw [(h.fr g).2.2.1.1]
      refine ⟨by omega, by omega, ?_⟩
      rw [if_pos (by omega)]
      have := hQ N g
      rw [show mfA L W S n f 0 k num = 0 from rfl, Int.add_zero] at this
      exact ⟨_, rfl, this⟩
    | succ m ih =>
      intro k num a l6 l7 l8 N k0 km n0 n1 g hQ
      have hN := h.fr g
      have hd : WdIs W S k (S.getD k.toNat []) := Or.inl ⟨by omega, by omega, rfl⟩
      have h12 := (hd.ok h.2.1 h.2.2.1).1.2.1
      refine t_275_8 o204 ?_
      rw [hN.2.2.1.1]
      refine ⟨by omega, by omega, ?_⟩
      rw [if_neg (by omega)]
      refine m227 hN.1 hN.2.1 hN.2.2.1 hd (fun M3 g3 hX0 => ?_)
      refine m238 hX0 ⟨rfl, rfl⟩ (X0_g L _ h12) (fun M1 g4 hX => ?_)
      have gg := (g.tr g3).tr (frm35 (fun k a _ => g4 k a))
      have h9 : M1 204 70 = cnt (XPk L W S k) := hX.1.2.2.2.1
      have hc : cnt (XPk L W S k) ≤ 12 := hX.1.2.2.2.2.2.2.1.1
      have hc0 : 0 ≤ cnt (XPk L W S k) := Int.natCast_nonneg _
      have hcl : cnt (XPk L W S k) = (XPk L W S k).2.1.length := rfl
      rw [mfA_s] at hQ
      have inner : ∀ (t : Nat) (i b : Int) (l8 : Option AV), 0 ≤ i → i + t = cnt (XPk L W S k) → (∀ M' : Mem, FrM M M' → Q (b + mfS n f (stL L (XPk L W S k)) t i (num + i) + mfA L W S n f m (k + 1) (num + cnt (XPk L W S k))) M') → inR (stL L (XPk L W S k)) → WR 275 47 [some (vR 204), some (vI n), some (vI f), some (vI (num + i)), some (vI b), some (vI k), some (vI (stL L (XPk L W S k))), some (vI i), l8] [] M1 (fun r M' => ∃ x, r = vI x ∧ Q x M') := by
        intro t
        induction t with
        | zero =>
          intro i b l8 i0 it hQ2 hst
          refine t_275_47 o204 ?_
          rw [h9]
          refine ⟨by omega, by omega, ?_⟩
          rw [if_pos (by omega), show num + i = num + cnt (XPk L W S k) by omega]
          refine ih (k + 1) _ b _ _ _ M1 (by omega) (by omega) (by omega) (by omega) gg (fun M' g' => ?_)
          have := hQ2 M' g'
          rw [show mfS n f (stL L (XPk L W S k)) 0 i (num + i) = 0 from rfl, Int.add_zero] at this
          exact this
        | succ t iht =>
          intro i b l8 i0 it hQ2 hst
          have hm := Int.tmod_lt_of_pos (num + i - f) (show 0 < n by omega)
          have hm2 := Int.lt_tmod_of_pos (num + i - f) (show 0 < n by omega)
          refine t_275_47 o204 ?_
          rw [h9]
          refine ⟨by omega, by omega, ?_⟩
          rw [mfS_s, ← Int.add_assoc, Int.add_assoc num i 1] at hQ2
          rw [if_neg (by omega), Int.add_assoc num i 1]
          refine ⟨⟨by omega, by omega, by omega, by omega⟩, by omega, ?_⟩
          by_cases q1 : (num + i - f).tmod n = 0
          · rw [if_pos q1]
            rw [if_pos q1] at hQ2
            refine ⟨hst, ?_⟩
            by_cases q2 : i = stL L (XPk L W S k)
            · rw [if_pos q2, m178 (by decide), if_pos rfl]
              rw [if_pos q2] at hQ2
              exact iht (i + 1) _ _ (by omega) (by omega) hQ2 hst
            · rw [if_neg q2, m178 (by decide), if_neg (by decide)]
              rw [if_neg q2] at hQ2
              exact iht (i + 1) _ _ (by omega) (by omega) hQ2 hst
          · rw [if_neg q1]
            rw [if_neg q1] at hQ2
            refine ⟨hst, ?_⟩
            by_cases q2 : i = stL L (XPk L W S k)
            · rw [if_pos q2, m178 (by decide), if_neg (by decide)]
              rw [if_pos q2] at hQ2
              exact iht (i + 1) _ _ (by omega) (by omega) hQ2 hst
            · rw [if_neg q2, m178 (by decide), if_pos rfl]
              rw [if_neg q2] at hQ2
              exact iht (i + 1) _ _ (by omega) (by omega) hQ2 hst
      rw [h9]
      refine ⟨by omega, ?_⟩
      have go := inner (XPk L W S k).2.1.length 0 a l8 (by omega) (by omega) (fun M' g' => by
        have := hQ M' g'
        rw [← Int.add_assoc] at this
        rw [Int.add_zero]
        exact this)
      rw [Int.add_zero] at go
      by_cases q0 : cnt (XPk L W S k) = 0
      · have es : stL L (XPk L W S k) = -1 := by unfold stL; rw [if_pos q0]
        rw [es] at go
        rw [if_pos q0]
        exact go (by decide)
      · have es : stL L (XPk L W S k) = strs L (XPk L W S k) := by unfold stL; rw [if_neg q0]
        have hs := strs_r (L := L) h.1.2.2.2.2 (XPk L W S k) (by omega)
        rw [es] at go
        rw [if_neg q0, m252 hX (by show 0 < cnt (XPk L W S k); omega)]
        exact go (by omega)
  refine t_275 o204 (key S.length 0 0 0 _ _ _ M (by omega) (by omega) (by omega) (by omega) FrM.rf (fun M' g => ?_))
  rw [Int.zero_add]
  exact hQ M' g
theorem mMis {Q : Int → Mem → Prop} (h : MdlQ M L W S c) (hn : inR n) (hf : inR f) (hQ : ∀ M' : Mem, FrM M M' → Q (aMis L W S n f) M') : WI 276 [vR 204, vI n, vI f] M Q := by
  unfold aMis at hQ
  refine t_276 o204 ?_
  rw [wr_id hn, m177 (by omega) (by decide) (by decide)]
  refine ⟨by have := b2i_r (decide (2 ≤ n ∧ n ≤ 4)); omega, ?_⟩
  by_cases q1 : 2 ≤ n ∧ n ≤ 4
  rotate_left
  · rw [if_neg (fun z => q1 z.1)] at hQ
    rw [decide_eq_false q1, if_pos (by decide)]
    exact ⟨_, rfl, hQ M FrM.rf⟩
  rw [decide_eq_true q1, if_neg (by decide), wr_id hf, wr_id (show inR (n - 1) by omega), m177 (by omega) (by decide) (by omega)]
  refine ⟨by have := b2i_r (decide (0 ≤ f ∧ f ≤ n - 1)); omega, ?_⟩
  by_cases q2 : 0 ≤ f ∧ f ≤ n - 1
  rotate_left
  · rw [if_neg (fun z => q2 (by omega))] at hQ
    rw [decide_eq_false q2, if_pos (by decide)]
    exact ⟨_, rfl, hQ M FrM.rf⟩
  rw [if_pos ⟨q1, by omega⟩] at hQ
  rw [decide_eq_true q2, if_neg (by decide)]
  refine m274 h (fun M1 x g1 xr hx => ⟨xr, ?_⟩)
  cases hs : hasSyl L S
  · rw [hs, if_neg (by decide)] at hQ
    rw [if_pos (hx.mpr hs)]
    exact ⟨_, rfl, hQ M1 g1⟩
  · rw [hs, if_pos rfl] at hQ
    rw [if_neg (fun z => by rw [hx.mp z] at hs; cases hs)]
    exact m275 (h.fr g1) q1 (by omega) (fun M' g => ⟨_, rfl, hQ M' (g1.tr g)⟩)
theorem mBeat {Q : Int → Mem → Prop} (h : MdlQ M L W S c) (hw : inR what) (hQ : ∀ M' : Mem, FrM M M' → Q (aBeat L W S what) M') : WI 277 [vR 204, vI what] M Q := by
  unfold aBeat at hQ
  have w12 := h.w12
  have h8 := h.2.2.1.2.1
  refine t_277 o204 ?_
  rw [wr_id hw, m177 (by omega) (by decide) (by decide)]
  refine ⟨by have := b2i_r (decide (0 ≤ what ∧ what ≤ 2)); omega, ?_⟩
  by_cases q1 : 0 ≤ what ∧ what ≤ 2
  rotate_left
  · rw [if_neg q1] at hQ
    rw [decide_eq_false q1, if_pos (by decide)]
    exact ⟨_, rfl, hQ M FrM.rf⟩
  rw [if_pos q1] at hQ
  rw [decide_eq_true q1, if_neg (by decide)]
  refine m274 h (fun M0 x g0 xr hx => ⟨xr, ?_⟩)
  cases hs : hasSyl L S
  · rw [hs, if_neg (by decide)] at hQ
    rw [if_pos (hx.mpr hs)]
    exact ⟨_, rfl, hQ M0 g0⟩
  rw [hs, if_pos rfl] at hQ
  rw [if_neg (fun z => by rw [hx.mp z] at hs; cases hs)]
  have key : ∀ (m : Nat) (n b1 b2 b3 : Int) (l6 l7 : Option AV) (N : Mem), 2 ≤ n → n + m = 5 → FrM M N → inR b3 → (∀ M' : Mem, FrM M M' → Q (if what = 0 then (btO (mfT L W S) m n (b1, b2, b3)).1 else if what = 1 then (btO (mfT L W S) m n (b1, b2, b3)).2.1 else (btO (mfT L W S) m n (b1, b2, b3)).2.2) M') → WR 277 31 [some (vR 204), some (vI what), some (vI b1), some (vI b2), some (vI b3), some (vI n), l6, l7] [] N (fun r M' => ∃ x, r = vI x ∧ Q x M') := by
    intro m
    induction m with
    | zero =>
      intro n b1 b2 b3 l6 l7 N n2 nm g hb hQ
      have fin := hQ N g
      refine t_277_31 o204 ⟨by omega, ?_⟩
      rw [if_pos (by omega)]
      refine ⟨hw, ?_⟩
      by_cases a0 : what = 0
      · rw [if_pos a0] at fin ⊢
        exact ⟨_, rfl, fin⟩
      rw [if_neg a0] at fin ⊢
      by_cases a1 : what = 1
      · rw [if_pos a1] at fin ⊢
        exact ⟨_, rfl, fin⟩
      · rw [if_neg a1] at fin ⊢
        exact ⟨_, rfl, fin⟩
    | succ m ih =>
      intro n b1 b2 b3 l6 l7 N n2 nm g hb hQ
      refine t_277_31 o204 ⟨by omega, ?_⟩
      rw [if_neg (by omega)]
      rw [btO_s] at hQ
      have inner : ∀ (t : Nat) (f b1 b2 b3 : Int) (l7 : Option AV) (N : Mem), 0 ≤ f → f + t = n → FrM M N → inR b3 → (∀ M' : Mem, FrM M M' → Q (if what = 0 then (btO (mfT L W S) m (n + 1) (btI (mfT L W S n) n t f (b1, b2, b3))).1 else if what = 1 then (btO (mfT L W S) m (n + 1) (btI (mfT L W S n) n t f (b1, b2, b3))).2.1 else (btO (mfT L W S) m (n + 1) (btI (mfT L W S n) n t f (b1, b2, b3))).2.2) M') → WR 277 40 [some (vR 204), some (vI what), some (vI b1), some (vI b2), some (vI b3), some (vI n), some (vI f), l7] [] N (fun r M' => ∃ x, r = vI x ∧ Q x M') := by
        intro t
        induction t with
        | zero =>
          intro f b1 b2 b3 l7 N f0 ft g hb hQ
          refine t_277_40 o204 ⟨by omega, by omega, ?_⟩
          rw [if_pos (by omega)]
          exact ih (n + 1) b1 b2 b3 _ _ N (by omega) (by omega) g hb hQ
        | succ t iht =>
          intro f b1 b2 b3 l7 N f0 ft g hb hQ
          have hN := h.fr g
          have hr := mfT_r (L := L) (W := W) (n := n) (f := f) w12 h8
          rw [btI_s] at hQ
          refine t_277_40 o204 ⟨by omega, by omega, ?_⟩
          rw [if_neg (by omega)]
          refine m275 hN (by omega) (by omega) (fun M1 g1 => ⟨hb, ?_⟩)
          have gg := g.tr g1
          by_cases z1 : b3 = -1
          · rw [if_pos z1]
            rw [if_pos (Or.inl z1)] at hQ
            exact iht (f + 1) n f _ _ M1 (by omega) (by omega) gg (by omega) hQ
          rw [if_neg z1]
          refine ⟨by omega, ?_⟩
          by_cases z2 : mfT L W S n f < b3
          · rw [if_pos z2]
            rw [if_pos (Or.inr (by show mfT L W S n f < b3; omega))] at hQ
            exact iht (f + 1) n f _ _ M1 (by omega) (by omega) gg (by omega) hQ
          · rw [if_neg z2]
            rw [if_neg (show ¬ (b3 = -1 ∨ mfT L W S n f < b3) by omega)] at hQ
            exact iht (f + 1) b1 b2 b3 _ M1 (by omega) (by omega) gg hb hQ
      exact inner n.toNat 0 b1 b2 b3 _ N (by omega) (by omega) g hb hQ
  exact key 3 2 0 0 (-1) _ _ M0 (by omega) (by omega) g0 (by decide) hQ
end BT
