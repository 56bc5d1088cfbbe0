/-! PARTS, on both sides. -/
def sN (f : Nat → Int) : Nat → Int
  | 0 => 0
  | k + 1 => sN f k + f k
theorem sN_congr {f g : Nat → Int} : ∀ (k : Nat), (∀ i, i < k → f i = g i) → sN f k = sN g k
  | 0, _ => rfl
  | k + 1, h => by
    show sN f k + f k = sN g k + g k
    rw [sN_congr k fun i hi => h i (by omega), h k (by omega)]
theorem sN_add {f g : Nat → Int} : ∀ (k : Nat), sN (fun i => f i + g i) k = sN f k + sN g k
  | 0 => rfl
  | k + 1 => by
    show sN (fun i => f i + g i) k + (f k + g k) = sN f k + f k + (sN g k + g k)
    rw [sN_add k]
    omega
theorem sN_mulL {f : Nat → Int} (a : Int) : ∀ (k : Nat), sN (fun i => a * f i) k = a * sN f k
  | 0 => (Int.mul_zero a).symm
  | k + 1 => by
    show sN (fun i => a * f i) k + a * f k = a * (sN f k + f k)
    rw [sN_mulL a k, Int.mul_add]
theorem sN_mulR {f : Nat → Int} (a : Int) : ∀ (k : Nat), sN (fun i => f i * a) k = sN f k * a
  | 0 => (Int.zero_mul a).symm
  | k + 1 => by
    show sN (fun i => f i * a) k + f k * a = (sN f k + f k) * a
    rw [sN_mulR a k, Int.add_mul]
theorem sN_zero : ∀ (k : Nat) {f : Nat → Int}, (∀ i, i < k → f i = 0) → sN f k = 0
  | 0, _, _ => rfl
  | k + 1, f, h => by
    show sN f k + f k = 0
    rw [sN_zero k fun i hi => h i (by omega), h k (by omega)]
    rfl
theorem sN_le {f g : Nat → Int} : ∀ (k : Nat), (∀ i, i < k → f i ≤ g i) → sN f k ≤ sN g k
  | 0, _ => Int.le_refl _
  | k + 1, h => by
    have h1 := sN_le k fun i hi => h i (by omega)
    have h2 := h k (by omega)
    show sN f k + f k ≤ sN g k + g k
    omega
theorem sN_pt {f g : Nat → Int} {j0 : Nat} {d : Int} : ∀ (k : Nat), j0 < k → f j0 = g j0 + d → (∀ i, i < k → i ≠ j0 → f i = g i) → sN f k = sN g k + d
  | 0, h, _, _ => absurd h (by omega)
  | k + 1, h, hd, ho => by
    show sN f k + f k = sN g k + g k + d
    by_cases q : j0 = k
    · subst q
      rw [sN_congr j0 fun i hi => ho i (by omega) (by omega), hd]
      omega
    · rw [sN_pt k (by omega) hd fun i hi hn => ho i (by omega) hn, ho k (by omega) (by omega)]
      omega
/-- ways from the front and ways from behind are as many -/
theorem flow {n : Nat} {F G : Nat → Int} {p : Nat → Nat → Bool} (hF0 : F 0 = 1) (hF : ∀ e, e < n → F (e + 1) = sN (fun s => if p s (e + 1) = true then F s else 0) (e + 1)) (hGn : G n = 1) (hG : ∀ i, i < n → G i = sN (fun j => if i < j ∧ p i j = true then G j else 0) (n + 1)) : F n = G 0 := by
  rcases Nat.eq_zero_or_pos n with rfl | hn
  · rw [hF0, hGn]
  have T1 : ∀ t : Nat, t < n → sN (fun i => sN (fun j => if t < j ∧ p i j = true then F i * G j else 0) (n + 1)) (t + 1) = G 0 := by
    intro t
    have row : ∀ t, t < n → sN (fun j => if t < j ∧ p t j = true then F t * G j else 0) (n + 1) = F t * G t := by
      intro t ht
      rw [hG t ht, ← sN_mulL]
      exact sN_congr _ fun j _ => by split <;> simp
    induction t with
    | zero =>
      intro h0
      show 0 + sN (fun j => if 0 < j ∧ p 0 j = true then F 0 * G j else 0) (n + 1) = G 0
      rw [row 0 hn, hF0, Int.zero_add, Int.one_mul]
    | succ t ih =>
      intro ht
      have ih := ih (by omega)
      have e1 : sN (fun i => sN (fun j => if t < j ∧ p i j = true then F i * G j else 0) (n + 1)) (t + 1) = sN (fun i => sN (fun j => if t + 1 < j ∧ p i j = true then F i * G j else 0) (n + 1) + (if p i (t + 1) = true then F i else 0) * G (t + 1)) (t + 1) := by
        refine sN_congr _ fun i _ => ?_
        refine sN_pt (j0 := t + 1) _ (by omega) ?_ fun j _ hj => ?_
        · rw [if_neg (show ¬ (t + 1 < t + 1 ∧ p i (t + 1) = true) by omega)]
          by_cases q : p i (t + 1) = true
          · rw [if_pos ⟨by omega, q⟩, if_pos q, Int.zero_add]
          · rw [if_neg (fun z => q z.2), if_neg q, Int.zero_mul]
            rfl
        · by_cases q : t < j ∧ p i j = true
          · rw [if_pos q, if_pos ⟨by omega, q.2⟩]
          · rw [if_neg q, if_neg (fun z => q ⟨by omega, z.2⟩)]
      rw [e1, sN_add, sN_mulR, ← hF t (by omega)] at ih
      show sN (fun i => sN (fun j => if t + 1 < j ∧ p i j = true then F i * G j else 0) (n + 1)) (t + 1) + sN (fun j => if t + 1 < j ∧ p (t + 1) j = true then F (t + 1) * G j else 0) (n + 1) = G 0
      rw [row (t + 1) ht]
      exact ih
  have h1 := T1 (n - 1) (by omega)
  rw [show n - 1 + 1 = n by omega] at h1
  have h2 : sN (fun i => sN (fun j => if n - 1 < j ∧ p i j = true then F i * G j else 0) (n + 1)) n = sN (fun i => if p i n = true then F i else 0) n := by
    refine sN_congr _ fun i _ => ?_
    show sN (fun j => if n - 1 < j ∧ p i j = true then F i * G j else 0) n + (if n - 1 < n ∧ p i n = true then F i * G n else 0) = _
    rw [sN_zero n fun j hj => if_neg (by omega), Int.zero_add, hGn, Int.mul_one]
    by_cases q : p i n = true
    · rw [if_pos ⟨by omega, q⟩, if_pos q]
    · rw [if_neg (fun z => q z.2), if_neg q]
  have h3 := hF (n - 1) (by omega)
  rw [show n - 1 + 1 = n by omega] at h3
  rw [h3, ← h2, h1]
def wT (p : Nat → Nat → Bool) : Nat → Nat → Int
  | 0 => fun j => if j = 0 then 1 else 0
  | e + 1 => fun j => if j = e + 1 then sN (fun s => if p s (e + 1) = true then wT p e s else 0) (e + 1) else wT p e j
theorem wT_up (p : Nat → Nat → Bool) (j : Nat) : ∀ d : Nat, wT p (j + d) j = wT p j j
  | 0 => rfl
  | d + 1 => by
    have e : wT p (j + d + 1) j = if j = j + d + 1 then sN (fun s => if p s (j + d + 1) = true then wT p (j + d) s else 0) (j + d + 1) else wT p (j + d) j := rfl
    rw [show j + (d + 1) = j + d + 1 from rfl, e, if_neg (by omega)]
    exact wT_up p j d
theorem wT_up' (p : Nat → Nat → Bool) {j e : Nat} (h : j ≤ e) : wT p e j = wT p j j := by
  have := wT_up p j (e - j)
  rwa [show j + (e - j) = e by omega] at this
theorem wT_eq (p : Nat → Nat → Bool) (e : Nat) : wT p (e + 1) (e + 1) = sN (fun s => if p s (e + 1) = true then wT p s s else 0) (e + 1) := by
  show (if e + 1 = e + 1 then sN (fun s => if p s (e + 1) = true then wT p e s else 0) (e + 1) else wT p e (e + 1)) = _
  rw [if_pos rfl]
  exact sN_congr _ fun s hs => by rw [wT_up' p (show s ≤ e by omega)]
theorem wT_r (p : Nat → Nat → Bool) : ∀ e : Nat, (∀ s, s ≤ e → 0 ≤ wT p s s) ∧ sN (fun s => wT p s s) (e + 1) ≤ (2 : Int) ^ e
  | 0 => ⟨fun s hs => by rw [show s = 0 by omega]; exact (show (0 : Int) ≤ 1 by decide), (show (0 : Int) + 1 ≤ 1 by decide)⟩
  | e + 1 => by
    obtain ⟨h1, h2⟩ := wT_r p e
    have h3 : 0 ≤ wT p (e + 1) (e + 1) := by
      rw [wT_eq]
      have := sN_le (f := fun _ => 0) (g := fun s => if p s (e + 1) = true then wT p s s else 0) (e + 1) fun s hs => by
        show (0 : Int) ≤ if p s (e + 1) = true then wT p s s else 0
        split
        · exact h1 s (by omega)
        · exact Int.le_refl _
      rw [sN_zero (e + 1) fun _ _ => rfl] at this
      exact this
    have h4 : wT p (e + 1) (e + 1) ≤ sN (fun s => wT p s s) (e + 1) := by
      rw [wT_eq]
      exact sN_le _ fun s hs => by
        show (if p s (e + 1) = true then wT p s s else 0) ≤ wT p s s
        split
        · exact Int.le_refl _
        · exact h1 s (by omega)
    refine ⟨fun s hs => ?_, ?_⟩
    · by_cases q : s = e + 1
      · rw [q]; exact h3
      · exact h1 s (by omega)
    · show sN (fun s => wT p s s) (e + 1) + wT p (e + 1) (e + 1) ≤ _
      rw [Int.pow_succ]
      omega
theorem two12 {e : Nat} (h : e ≤ 12) : (2 : Int) ^ e ≤ 4096 := by
  have : ∀ d : Nat, d ≤ 12 → (2 : Int) ^ d ≤ 4096 := by decide
  exact this e h
theorem wT_b (p : Nat → Nat → Bool) {e : Nat} (h : e ≤ 12) : 0 ≤ wT p e e ∧ wT p e e ≤ 4096 := by
  obtain ⟨h1, h2⟩ := wT_r p e
  have h3 := two12 h
  refine ⟨h1 e (Nat.le_refl _), ?_⟩
  have h4 : sN (fun s => wT p s s) (e + 1) = sN (fun s => wT p s s) e + wT p e e := rfl
  have h5 := sN_le (f := fun _ => 0) (g := fun s => wT p s s) e fun s hs => h1 s (by omega)
  rw [sN_zero e fun _ _ => rfl] at h5
  omega
/-- whether a word is learnt that is just this part of a row -/
def pW (W : List (List Int)) (l : List Int) (i j : Nat) : Bool := decide (sub l i ((j : Int) - i) ∈ W)
def waysL (W : List (List Int)) (l : List Int) : Int := wT (pW W l) l.length l.length
def aParts (W S : List (List Int)) (w : Int) : Int := match wd W S w with
  | some l => waysL W l
  | none => -1
section PA
variable {M : Mem} {p q r w : Int} {L : Lw} {W S : List (List Int)} {l : List Int} {c : Int → Int}
theorem s142 {Q : Int → Mem → Prop} {n : Nat} {m : List Int} (h : WrdIs M q n L W) (hm : dg m) (hml : m.length ≤ 12) : WI 142 [vR q, vL (keyOf m)] M Q = Q (b2i (decide (m ∈ W))) M := by
  obtain ⟨⟨hq, hs, hs2⟩, h0, h2, hc, hc2, hr⟩ := h
  have ho : gO 10 q := ⟨hq, by rw [hs]⟩
  have hp := key_pos hm
  have hlt := key_lt hm (by omega)
  have key : ∀ (k j : Nat) (P : AV → Mem → Prop), j + k = W.length → P (vI (b2i (anyB (fun x => decide (W.getD x.toNat [] = m)) j k))) M → WR 142 8 [some (vR q), some (vL (keyOf m)), none, some (vI m.length), some (vI j)] [] M P := by
    intro k
    induction k with
    | zero =>
      intro j P hj hP
      refine t_142_8 ho ?_
      rw [h2]
      refine ⟨by omega, by omega, ?_⟩
      rw [if_pos (by omega)]
      exact hP
    | succ k ih =>
      intro j P hj hP
      obtain ⟨hrow, -, -⟩ := hr j (by omega)
      have h12 := hrow.2.2.2.1
      unfold anyB at hP
      rw [Int.toNat_natCast] at hP
      refine t_142_8 ho ?_
      rw [h0, h2, hs2, hrow.2.2.1]
      refine ⟨by omega, by omega, ?_⟩
      rw [if_neg (by omega)]
      refine ⟨⟨by omega, (show 20 ≤ 24 by decide), (show 24 ≤ 41 by decide), (show 24 ≠ 40 by decide)⟩, by omega, ?_⟩
      rw [if_neg (by omega)]
      refine ⟨Or.inl ⟨by rw [hs2], by omega, by rw [hs2]; show (j : Int) < ((n : Nat) : Int); omega⟩, ⟨hrow.1.1, by rw [hrow.1.2.1]⟩, by omega, by omega, ?_⟩
      have nx : ¬ W.getD j [] = m → WR 142 8 [some (vR q), some (vL (keyOf m)), none, some (vI m.length), some (vI ((j : Int) + 1))] [] M P := fun he => by
        rw [decide_eq_false he, Bool.false_or] at hP
        exact ih (j + 1) P (by omega) hP
      by_cases e : ((W.getD j []).length : Int) = m.length
      · rw [if_pos e]
        have ek : ∀ P2 : Int → Mem → Prop, WL 83 [vR (M (q + 2) j), vI 0, vI m.length] M P2 = P2 (keyOf (W.getD j [])) M := fun P2 => by
          rw [s83 hrow (by decide) (by omega) (by omega), ← e, sub_all]
        have hp2 := key_pos hrow.2.2.2.2.1
        have hlt2 := key_lt hrow.2.2.2.2.1 (by omega)
        rw [ek]
        refine ⟨Or.inl ⟨by rw [hs2], by omega, by rw [hs2]; show (j : Int) < ((n : Nat) : Int); omega⟩, by rw [hrow.1.2.1], ⟨by omega, by omega⟩, cmp3_r _ _, ?_⟩
        by_cases e2 : W.getD j [] = m
        · rw [if_pos ((cmp3 _ _).mpr (by rw [e2]))]
          rw [decide_eq_true e2, Bool.true_or] at hP
          exact hP
        · rw [if_neg (fun z => e2 ((key_eq hrow.2.2.2.2.1 hm).mp ((cmp3 _ _).mp z)))]
          exact nx e2
      · rw [if_neg e]
        exact nx (fun z => e (by rw [z]))
  have h00 := key W.length 0 (fun r N => r = vI (b2i (decide (m ∈ W))) ∧ N = M) (by omega) ⟨by rw [show ((0 : Nat) : Int) = 0 from rfl, anyB_mem (fun i hi => by rw [Int.toNat_natCast])]; exact congrArg (fun t => vI (b2i t)) (decide_eq_decide.mpr Iff.rfl), rfl⟩
  refine FN.wi (WC.fn (t_142 ho ?_))
  rw [s85 hm (by omega)]
  exact h00
theorem s141 {Q : Int → Mem → Prop} (h : LawIs M p L) (hW : WrdIs M (p + 8) 20 L W) (hr : RowIs M r l) (hrs : RowS r) (hQ : ∀ M' : Mem, Fr M M' → Q (waysL W l) M') : WI 141 [vR (p + 8), vR r] M Q := by
  have hp := h.1
  have h12 := hr.2.2.2.1
  have scr : Scr (p + 9) := by unfold LwC at hp; unfold Scr; omega
  have fr : ∀ {N : Mem}, (∀ k : Int, k ≠ p + 9 → N k = M k) → Fr M N := fun {N} g => ⟨fun k hk => g k (fun e => hk (by rw [e]; exact scr)), fun j _ _ => ⟨by rw [g 4 (by unfold LwC at hp; omega)], by rw [g 9 (by unfold LwC at hp; omega)], by rw [g 53 (by unfold LwC at hp; omega)]⟩, by rw [g 64 (by unfold LwC at hp; omega)], by rw [g 5 (by unfold LwC at hp; omega)]⟩
  have z9 : shA SH (p + 9) = (20, 13) := by
    have := shL hp
    unfold ShL at this
    exact this.2.2.2.2.2.2.2.2.2.2.1
  have e1 : ∀ {N : Mem}, (∀ k : Int, k ≠ p + 9 → N k = M k) → N (p + 8) 1 = p + 9 := fun {N} g => by
    have := (h.fr (fr g)).2.1
    unfold PtrL at this
    exact this.2.2.2.2.2.2.2.2.2.2.2.2
  have g9 : ∀ {j : Int}, 0 ≤ j → j < 13 → gA 20 (p + 9) j := fun {j} a b => gC z9 a b
  have ho : gO 10 (p + 8) := ⟨hW.1.1, by rw [hW.1.2.1]⟩
  have lp : ∀ (n e : Nat) (l3 : Option AV) (N : Mem), e + n = l.length → (∀ k : Int, k ≠ p + 9 → N k = M k) → (∀ j : Nat, j ≤ e → N (p + 9) j = wT (pW W l) j j) → WR 141 9 [some (vR (p + 8)), some (vR r), some (vI ((e : Int) + 1)), l3] [] N (fun r M' => ∃ x, r = vI x ∧ Q x M') := by
    intro n
    induction n with
    | zero =>
      intro e l3 N he g hk
      have rN := hr.fr' hrs (fr g)
      have hro : gO 5 r := ⟨rN.1.1, by rw [rN.1.2.1]⟩
      refine t_141_9 ho ?_
      rw [rN.2.2.1, e1 g, z9, hk l.length (by omega)]
      refine ⟨hro, by omega, by omega, ?_⟩
      rw [if_pos (by omega)]
      refine ⟨hro, ⟨by unfold LwC at hp; omega, by decide, by decide, by decide⟩, by decide, ?_⟩
      rw [if_neg (by show ¬ (((13 : Nat) : Int) ≤ _); omega)]
      exact ⟨hro, g9 (by omega) (by omega), _, rfl, hQ N (fr g)⟩
    | succ n ih =>
      intro e l3 N he g hk
      have rN := hr.fr' hrs (fr g)
      have hro : gO 5 r := ⟨rN.1.1, by rw [rN.1.2.1]⟩
      refine t_141_9 ho ?_
      rw [rN.2.2.1, e1 g, z9]
      refine ⟨hro, by omega, by omega, ?_⟩
      rw [if_neg (by omega)]
      refine ⟨⟨by unfold LwC at hp; omega, by decide, by decide, by decide⟩, by decide, ?_⟩
      rw [if_neg (by show ¬ (((13 : Nat) : Int) ≤ _); omega)]
      refine ⟨g9 (by omega) (by omega), ?_⟩
      have inner : ∀ (m s : Nat) (N : Mem), s + m = e + 1 → (∀ k : Int, k ≠ p + 9 → N k = M k) → (∀ j : Nat, j ≤ e → N (p + 9) j = wT (pW W l) j j) → N (p + 9) ((e : Int) + 1) = sN (fun s => if pW W l s (e + 1) = true then wT (pW W l) s s else 0) s → WR 141 35 [some (vR (p + 8)), some (vR r), some (vI ((e : Int) + 1)), some (vI s)] [] N (fun r M' => ∃ x, r = vI x ∧ Q x M') := by
        intro m
        induction m with
        | zero =>
          intro s N hs g hk hv
          refine t_141_35 ho ⟨by omega, by omega, ?_⟩
          rw [if_pos (by omega)]
          refine ih (e + 1) _ N (by omega) g (fun j hj => ?_)
          by_cases q : j = e + 1
          · rw [q, wT_eq, show ((e + 1 : Nat) : Int) = (e : Int) + 1 from rfl, hv, show s = e + 1 by omega]
          · exact hk j (by omega)
        | succ m ihm =>
          intro s N hs g hk hv
          have rN := hr.fr' hrs (fr g)
          have hb := wT_b (pW W l) (e := s) (by omega)
          have es : ∀ v : Int, v = (if pW W l s (e + 1) = true then wT (pW W l) s s else 0) → sN (fun s => if pW W l s (e + 1) = true then wT (pW W l) s s else 0) (s + 1) = sN (fun s => if pW W l s (e + 1) = true then wT (pW W l) s s else 0) s + v := fun v hv => by rw [hv]; rfl
          refine t_141_35 ho ⟨by omega, by omega, ?_⟩
          rw [if_neg (by omega), e1 g, hk s (by omega)]
          refine ⟨g9 (by omega) (by omega), by omega, ?_⟩
          by_cases q : wT (pW W l) s s ≤ 0
          · rw [if_pos q]
            refine ihm (s + 1) N (by omega) g hk ?_
            rw [es 0 (by split <;> omega), hv, Int.add_zero]
          · have hWN := hW.fr (lw8 hp) (fr g)
            have hsl := sub_len (l := l) (a := (s : Int)) (n := (e : Int) + 1 - s) (by omega) (by omega) (by omega)
            rw [if_neg q, s83 rN (by omega) (by omega) (by omega), s142 hWN (sub_dg rN.2.2.2.2.1 _ _) (by omega), e1 g, hk s (by omega)]
            have ep : decide (sub l (s : Int) ((e : Int) + 1 - s) ∈ W) = pW W l s (e + 1) := rfl
            rw [ep]
            refine ⟨by rw [rN.1.2.1], by have := b2i_r (pW W l s (e + 1)); omega, ?_⟩
            cases hpw : pW W l s (e + 1)
            · rw [if_pos (by decide)]
              refine ihm (s + 1) N (by omega) g hk ?_
              rw [es 0 (by rw [hpw, if_neg (by decide)]), hv, Int.add_zero]
            · rw [if_neg (by decide)]
              refine ⟨g9 (by omega) (by omega), g9 (by omega) (by omega), g9 (by omega) (by omega), ihm (s + 1) _ (by omega) (fun k a => by rw [upM_o a]; exact g k a) (fun j hj => by rw [upM_f (by omega)]; exact hk j hj) ?_⟩
              rw [upM_s, es (wT (pW W l) s s) (by rw [hpw, if_pos rfl]), hv]
      refine inner (e + 1) 0 _ (by omega) (fun k a => by rw [upM_o a]; exact g k a) (fun j hj => by rw [upM_f (by omega)]; exact hk j hj) ?_
      rw [upM_s]
      rfl
  refine t_141 ho ?_
  rw [e1 (fun _ _ => rfl)]
  refine ⟨g9 (by decide) (by decide), ?_⟩
  have := lp l.length 0 none (upM M (p + 9) 0 1) (by omega) (fun k a => upM_o a) (fun j hj => by
    rw [show j = 0 by omega]
    exact upM_s)
  exact this
theorem cParts {Q : Int → Mem → Prop} (h : ClsQ M p q L W S c) (hi : inR w) (hQ : ∀ M' : Mem, Fr M M' → Q (aParts W S w) M') : WI 161 [vR 1, vI w] M Q := by
  have hr := wP_r (w := w) h
  have hL := h.1.1
  have p7 := h.2.2.2.2.2.2.2.2.2.2.2.1
  have h1 : M p 1 = p + 8 := hL.2.1.2.1
  unfold aParts at hQ
  refine t_161 o1.1 ?_
  rw [s175 h hi]
  refine ⟨by omega, ?_⟩
  cases e : wd W S w with
  | none =>
    rw [e] at hQ
    rw [wP_none e, if_pos rfl]
    exact ⟨_, rfl, hQ M Fr.rf⟩
  | some l =>
    rw [e] at hQ
    obtain ⟨xl, yl⟩ := wP_some h e
    have hb := wT_b (pW W l) (e := l.length) xl.2.2.2.1
    rw [if_neg (by have := xl.1.1; omega), p7, h1]
    refine ⟨hL.o.1, by rw [h.1.2.1.1.2.1], s141 hL h.1.2.1 xl yl (fun M' g => ?_)⟩
    have hb : 0 ≤ waysL W l ∧ waysL W l ≤ 4096 := hb
    refine ⟨⟨by decide, by omega⟩, _, rfl, ?_⟩
    rw [Int.min_eq_right (by omega)]
    exact hQ M' g
end PA
