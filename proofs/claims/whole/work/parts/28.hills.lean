/-! HILLS, on both sides. -/
def nbO (L : Lw) : List Int → Int
  | [] => -1
  | b :: _ => opn L b
def hlL (L : Lw) : Bool → List Int → Int
  | _, [] => 0
  | rose, a :: r => (if nbO L r < opn L a ∧ rose = true then 1 else 0) + hlL L (if nbO L r = opn L a then rose else decide (opn L a < nbO L r)) r
theorem hlL_c (L : Lw) (rose : Bool) (a : Int) (r : List Int) : hlL L rose (a :: r) = (if nbO L r < opn L a ∧ rose = true then 1 else 0) + hlL L (if nbO L r = opn L a then rose else decide (opn L a < nbO L r)) r := rfl
theorem nbO_drop {L : Lw} {l : List Int} {i : Nat} : nbO L (l.drop i) = if i < l.length then opn L (gi l i) else -1 := by
  by_cases h : i < l.length
  · rw [if_pos h, drop_cons h]
    rfl
  · rw [if_neg h, List.drop_eq_nil_of_le (by omega)]
    rfl
def aHills (L : Lw) (W S : List (List Int)) (w : Int) : Int := match wd W S w with
  | some l => hlL L true l
  | none => -1
section HI
variable {M : Mem} {p q r w : Int} {L : Lw} {W S : List (List Int)} {l : List Int} {c : Int → Int}
theorem s98 {Q : Int → Mem → Prop} (h : LawIs M p L) (hr : RowIs M r l) (hon : onl L l) : WI 98 [vR (p + 1), vR r] M Q = Q (hlL L true l) M := by
  have hw := h.2.2.2.2.2
  have h12 := hr.2.2.2.1
  have hro : gO 5 r := ⟨hr.1.1, by rw [hr.1.2.1]⟩
  have key : ∀ (n i : Nat) (a : Int) (rose : Bool) (l5 l6 : Option AV) (P : AV → Mem → Prop), i + n = l.length → P (vI (a + hlL L rose (l.drop i))) M → WR 98 7 [some (vR (p + 1)), some (vR r), some (vI a), some (vI (b2i rose)), some (vI i), l5, l6] [] M P := by
    intro n
    induction n with
    | zero =>
      intro i a rose l5 l6 P hi hP
      refine t_98_7 h.o.2 ?_
      rw [hr.2.2.1]
      refine ⟨hro, by omega, by omega, ?_⟩
      rw [if_pos (by omega)]
      rw [List.drop_eq_nil_of_le (by omega), show hlL L rose [] = 0 from rfl, Int.add_zero] at hP
      exact hP
    | succ n ih =>
      intro i a rose l5 l6 P hi hP
      have hd := drop_cons (l := l) (i := i) (by omega)
      have q1 := hon _ (gi_mem (l := l) (i := (i : Int)) (by omega) (by omega))
      have hg := gi_dg' hr.2.2.2.2.1 (i : Int)
      have o1 := opn_r hw (gi l i)
      have o10 : 0 ≤ opn L (gi l i) := by
        rw [opn_on q1.1 q1.2]
        exact (hw.1.2.1 _ q1.1 q1.2).2.2.1
      have hb := b2i_r rose
      rw [hd, hlL_c, nbO_drop, ← Int.add_assoc] at hP
      refine t_98_7 h.o.2 ?_
      rw [hr.2.2.1]
      refine ⟨hro, by omega, by omega, ?_⟩
      rw [if_neg (by omega), s82 hr (by omega), s93 h (by omega), hr.2.2.1]
      refine ⟨hro.2, hro, by omega, by omega, ?_⟩
      have nx : ∀ (a' : Int) (rose' : Bool) (x l5 l6 : Option AV), x = some (vI (b2i rose')) → P (vI (a' + hlL L rose' (l.drop (i + 1)))) M → WR 98 7 [some (vR (p + 1)), some (vR r), some (vI a'), x, some (vI ((i : Int) + 1)), l5, l6] [] M P := fun a' rose' x l5 l6 hx hP => by
        rw [hx]
        exact ih (i + 1) a' rose' l5 l6 P (by omega) hP
      by_cases q : l.length ≤ i + 1
      · rw [if_pos (show (l.length : Int) ≤ (i : Int) + 1 by omega)]
        rw [if_neg (show ¬ i + 1 < l.length by omega)] at hP
        refine ⟨by omega, ?_⟩
        rw [if_neg (by omega)]
        refine ⟨by omega, ?_⟩
        rw [if_neg (show ¬ (-1 : Int) = opn L (gi l i) by omega), decide_eq_false (show ¬ opn L (gi l i) < -1 by omega)] at hP
        cases rose
        · rw [if_pos (by decide), if_neg (by omega), if_pos (by omega)]
          rw [if_neg (fun z => absurd z.2 (by decide)), Int.add_zero] at hP
          exact nx _ false _ _ _ rfl hP
        · rw [if_neg (by decide), if_neg (by omega), if_pos (by omega)]
          rw [if_pos ⟨by omega, rfl⟩] at hP
          exact nx _ false _ _ _ rfl hP
      · rw [if_neg (show ¬ (l.length : Int) ≤ (i : Int) + 1 by omega)]
        rw [if_pos (show i + 1 < l.length by omega), show ((i + 1 : Nat) : Int) = (i : Int) + 1 from rfl] at hP
        have hg2 := gi_dg' hr.2.2.2.2.1 ((i : Int) + 1)
        have o2 := opn_r hw (gi l ((i : Int) + 1))
        rw [s82 hr (by omega), s93 h (by omega)]
        refine ⟨hro.2, by omega, by omega, ?_⟩
        generalize opn L (gi l ((i : Int) + 1)) = y at *
        generalize opn L (gi l i) = x at *
        by_cases c1 : x ≤ y
        · rw [if_pos c1]
          rw [if_neg (show ¬ (y < x ∧ rose = true) by omega), Int.add_zero] at hP
          by_cases c2 : y = x
          · rw [if_pos c2]
            rw [if_pos c2] at hP
            exact nx _ rose _ _ _ rfl hP
          · rw [if_neg c2, if_neg (by omega)]
            rw [if_neg c2, decide_eq_true (show x < y by omega)] at hP
            exact nx _ true _ _ _ rfl hP
        · rw [if_neg c1]
          refine ⟨by omega, ?_⟩
          rw [if_neg (show ¬ y = x by omega), decide_eq_false (show ¬ x < y by omega)] at hP
          cases rose
          · rw [if_pos (by decide), if_neg (by omega), if_pos (by omega)]
            rw [if_neg (fun z => absurd z.2 (by decide)), Int.add_zero] at hP
            exact nx _ false _ _ _ rfl hP
          · rw [if_neg (by decide), if_neg (by omega), if_pos (by omega)]
            rw [if_pos ⟨by omega, rfl⟩] at hP
            exact nx _ false _ _ _ rfl hP
  exact FN.wi (WC.fn (t_98 h.o.2 (key l.length 0 0 true _ _ _ (by omega) ⟨by rw [List.drop_zero, Int.zero_add], rfl⟩)))
/-- a word's sounds are sounds: what the words of the class are made of -/
def OnW (L : Lw) (W : List (List Int)) : Prop := ∀ i : Nat, i < W.length → WordOk L (W.getD i [])
theorem wd_on (hW : OnW L W) (hS : OnW L S) (h : wd W S w = some l) : WordOk L l := by
  rcases wd_is h with q | q
  · rw [q.2.2]; exact hS _ (by omega)
  · rw [q.2.2]; exact hW _ (by omega)
theorem cHills {Q : Int → Mem → Prop} (h : ClsQ M p q L W S c) (hW : OnW L W) (hS : OnW L S) (hi : inR w) : WI 162 [vR 1, vI w] M Q = Q (aHills L W S w) M := by
  have hr := wP_r (w := w) h
  have hL := h.1.1
  have p7 := h.2.2.2.2.2.2.2.2.2.2.2.1
  have h0 : M p 0 = p + 1 := hL.2.1.1
  refine FN.wi (WC.fn (t_162 o1.1 ?_))
  rw [s175 h hi]
  refine ⟨by omega, ?_⟩
  unfold aHills
  cases e : wd W S w with
  | none =>
    rw [wP_none e, if_pos rfl]
    exact ⟨rfl, rfl⟩
  | some l =>
    obtain ⟨xl, -⟩ := wP_some h e
    rw [if_neg (by have := xl.1.1; omega), p7, h0, s98 hL xl (wd_on hW hS e).2.2]
    exact ⟨hL.o.1, hL.o.2.2, rfl, rfl⟩
theorem mHills {Q : Int → Mem → Prop} (h : MdlQ M L W S c) (hi : inR w) (hQ : ∀ M' : Mem, FrM M M' → Q (aHills L W S w) M') : WI 254 [vR 204, vI w] M Q := by
  have hw := h.1.2.2.2.2
  unfold aHills at hQ
  refine t_254 o204 ?_
  rw [m219 h hi]
  cases e : wd W S w with
  | none =>
    rw [e] at hQ
    exact ⟨by decide, by rw [show b2i (Option.isSome (none : Option (List Int))) = 0 from rfl, if_pos rfl]; exact ⟨_, rfl, hQ M FrM.rf⟩⟩
  | some l =>
    rw [e] at hQ
    dsimp only at hQ
    have hd := wd_is e
    have hok := (hd.ok h.2.1 h.2.2.1).1
    have h12 := hok.2.1
    rw [show b2i (Option.isSome (some l)) = 1 from rfl, if_neg (by decide)]
    refine ⟨by decide, m227 h.1 h.2.1 h.2.2.1 hd (fun M1 g1 hX => ?_)⟩
    have e69 : M1 204 69 = l.length := hX.2.2.1
    have e64 := hX.p.1
    have e50 : M1 204 50 = 220 := hX.1.1.at (by decide)
    have on : ∀ i : Int, 0 ≤ i → i < l.length → gA 20 232 i ∧ M1 232 i = gi l i ∧ gA 20 220 (gi l i) ∧ M1 220 (gi l i) = opn L (gi l i) := fun i a b => by
      have q1 := hok.2.2 _ (gi_mem (l := l) a b)
      have := hX.2.2.2.2.1 i a b
      rw [Int.zero_add] at this
      refine ⟨gC zC.1 a (by show _ < ((12 : Nat) : Int); omega), this, g220 hX.1 q1.1 q1.2, ?_⟩
      rw [opn_on q1.1 q1.2]
      exact (hX.1.2.1.2.1 _ q1.1 q1.2).2.1
    have ro := fun i : Int => opn_r hw (gi l i)
    have rp : ∀ i : Int, 0 ≤ i → i < l.length → 0 ≤ opn L (gi l i) := fun i a b => by
      have q1 := hok.2.2 _ (gi_mem (l := l) a b)
      rw [opn_on q1.1 q1.2]
      exact (hw.1.2.1 _ q1.1 q1.2).2.2.1
    have key : ∀ (n i : Nat) (a : Int) (rose : Bool) (l4 l5 : Option AV), l.length - i ≤ n → i ≤ l.length → (i < l.length → ((i = 0 ∧ rose = true) ∨ (0 < i ∧ rose = decide (opn L (gi l ((i : Int) - 1)) < opn L (gi l i))))) → (∀ M' : Mem, FrM M M' → Q (a + hlL L rose (l.drop i)) M') → WR 254 19 [some (vR 204), some (vI w), some (vI a), some (vI i), l4, l5] [] M1 (fun r M' => ∃ x, r = vI x ∧ Q x M') := by
      intro n
      induction n with
      | zero =>
        intro i a rose l4 l5 hn hi' hro hQ
        refine t_254_19 o204 ?_
        rw [e69]
        refine ⟨by omega, by omega, ?_⟩
        rw [if_pos (by omega)]
        have := hQ M1 g1
        rw [List.drop_eq_nil_of_le (by omega), show hlL L rose [] = 0 from rfl, Int.add_zero] at this
        exact ⟨_, rfl, this⟩
      | succ n ih =>
        intro i a rose l4 l5 hn hi' hro hQ
        refine t_254_19 o204 ?_
        rw [e69]
        refine ⟨by omega, by omega, ?_⟩
        by_cases ie : l.length ≤ i
        · rw [if_pos (by omega)]
          have := hQ M1 g1
          rw [List.drop_eq_nil_of_le (by omega), show hlL L rose [] = 0 from rfl, Int.add_zero] at this
          exact ⟨_, rfl, this⟩
        rw [if_neg (by omega)]
        have hro := hro (by omega)
        have xi := on i (by omega) (by omega)
        have xr := rp i (by omega) (by omega)
        have xo := ro i
        -- inside the plateau
        have inner : ∀ (m t : Nat) (l5 : Option AV), t + m = l.length → i < t → opn L (gi l ((t : Int) - 1)) = opn L (gi l i) → hlL L rose (l.drop i) = hlL L rose (l.drop (t - 1)) → WR 254 30 [some (vR 204), some (vI w), some (vI a), some (vI i), some (vI t), l5] [] M1 (fun r M' => ∃ x, r = vI x ∧ Q x M') := by
          intro m
          induction m with
          | zero =>
            intro t l5 ht hit ho hh
            have e1 : hlL L rose (l.drop (t - 1)) = if rose = true then 1 else 0 := by
              have hdr := drop_cons (l := l) (i := t - 1) (by omega)
              rw [show t - 1 + 1 = t by omega, List.drop_eq_nil_of_le (show l.length ≤ t by omega)] at hdr
              rw [hdr, hlL_c, show ((t - 1 : Nat) : Int) = (t : Int) - 1 by omega, ho, show nbO L [] = -1 from rfl, show ∀ b, hlL L b [] = 0 from fun _ => rfl, Int.add_zero]
              cases rose
              · rw [if_neg (fun z => absurd z.2 (by decide)), if_neg (by decide)]
              · rw [if_pos ⟨by omega, rfl⟩, if_pos rfl]
            rw [hh, e1] at hQ
            have nx : ∀ (v : Int) (l5 : Option AV), v = (if rose = true then 1 else 0) → WR 254 19 [some (vR 204), some (vI w), some (vI (a + v)), some (vI t), some (vI t), l5] [] M1 (fun r M' => ∃ x, r = vI x ∧ Q x M') := fun v l5 hv => ih t (a + v) false _ _ (by omega) (by omega) (fun z => absurd z (by omega)) (fun M' g => by
              rw [List.drop_eq_nil_of_le (by omega), show hlL L false [] = 0 from rfl, Int.add_zero, hv]
              exact hQ M' g)
            refine t_254_30 o204 ?_
            rw [e69]
            refine ⟨by omega, by omega, ?_⟩
            rw [if_pos (by omega)]
            refine ⟨by omega, ?_⟩
            by_cases i0 : i = 0
            · rw [if_pos (by omega), if_pos (by omega), m178 (by decide), if_neg (by decide)]
              refine nx _ _ ?_
              rcases hro with z | z
              · rw [if_pos z.2]
              · omega
            · have xp := on ((i : Int) - 1) (by omega) (by omega)
              have xq := ro ((i : Int) - 1)
              rcases hro with z | z
              · omega
              rw [if_neg (by omega), e64, e50, xp.2.1, xi.2.1, xp.2.2.2, xi.2.2.2]
              refine ⟨xp.1, xp.2.2.1, xi.1, xi.2.2.1, by omega, by omega, ?_⟩
              by_cases c1 : opn L (gi l i) ≤ opn L (gi l ((i : Int) - 1))
              · rw [if_pos c1, m178 (by decide), if_pos rfl]
                exact nx _ _ (by rw [z.2, decide_eq_false (by omega)]; rfl)
              · rw [if_neg c1, if_pos (by omega), m178 (by decide), if_neg (by decide)]
                exact nx _ _ (by rw [z.2, decide_eq_true (by omega)]; rfl)
          | succ m ihm =>
            intro t l5 ht hit ho hh
            have xt := on t (by omega) (by omega)
            have xu := ro t
            have hdr := drop_cons (l := l) (i := t - 1) (by omega)
            rw [show t - 1 + 1 = t by omega] at hdr
            have e1 : hlL L rose (l.drop (t - 1)) = (if opn L (gi l t) < opn L (gi l i) ∧ rose = true then 1 else 0) + hlL L (if opn L (gi l t) = opn L (gi l i) then rose else decide (opn L (gi l i) < opn L (gi l t))) (l.drop t) := by
              rw [hdr, hlL_c, show ((t - 1 : Nat) : Int) = (t : Int) - 1 by omega, ho, nbO_drop, if_pos (show t < l.length by omega)]
            refine t_254_30 o204 ?_
            rw [e69, e64, e50, xt.2.1, xi.2.1, xt.2.2.2, xi.2.2.2]
            refine ⟨by omega, by omega, ?_⟩
            rw [if_neg (by omega)]
            refine ⟨xt.1, xt.2.2.1, xi.1, xi.2.2.1, by omega, by omega, ?_⟩
            by_cases c1 : opn L (gi l t) = opn L (gi l i)
            · rw [if_pos c1]
              refine ihm (t + 1) l5 (by omega) (by omega) (by rw [show ((t + 1 : Nat) : Int) - 1 = t by omega]; exact c1) ?_
              rw [hh, e1, if_neg (by omega), if_pos c1, Int.zero_add, Nat.add_sub_cancel]
            · rw [if_neg c1]
              rw [hh, e1, if_neg c1] at hQ
              have nx : ∀ (v : Int) (l5 : Option AV), v = (if opn L (gi l t) < opn L (gi l i) ∧ rose = true then 1 else 0) → WR 254 19 [some (vR 204), some (vI w), some (vI (a + v)), some (vI t), some (vI t), l5] [] M1 (fun r M' => ∃ x, r = vI x ∧ Q x M') := fun v l5 hv => ih t (a + v) _ _ _ (by omega) (by omega) (fun z => Or.inr ⟨by omega, by rw [ho]⟩) (fun M' g => by
                rw [hv, Int.add_assoc]
                exact hQ M' g)
              refine ⟨by omega, ?_⟩
              by_cases i0 : i = 0
              · have hr1 : rose = true := by
                  rcases hro with z | z
                  · exact z.2
                  · omega
                rw [if_pos (by omega), if_neg (by omega)]
                refine ⟨xt.1, xt.2.2.1, xi.1, xi.2.2.1, ?_⟩
                by_cases c2 : opn L (gi l i) ≤ opn L (gi l t)
                · rw [if_pos c2, m178 (by decide), if_pos rfl]
                  exact nx _ _ (by rw [if_neg (by omega)])
                · rw [if_neg c2, m178 (by decide), if_neg (by decide)]
                  exact nx _ _ (by rw [if_pos ⟨by omega, hr1⟩])
              · have xp := on ((i : Int) - 1) (by omega) (by omega)
                have xq := ro ((i : Int) - 1)
                rcases hro with z | z
                · omega
                rw [if_neg (by omega), xp.2.1, xp.2.2.2]
                refine ⟨xp.1, xp.2.2.1, xi.1, xi.2.2.1, by omega, ?_⟩
                by_cases c3 : opn L (gi l i) ≤ opn L (gi l ((i : Int) - 1))
                · rw [if_pos c3, m178 (by decide), if_pos rfl]
                  exact nx _ _ (by rw [z.2, decide_eq_false (by omega), if_neg (fun y => absurd y.2 (by decide))])
                · rw [if_neg c3, if_neg (by omega)]
                  refine ⟨xt.1, xt.2.2.1, xi.1, xi.2.2.1, ?_⟩
                  by_cases c2 : opn L (gi l i) ≤ opn L (gi l t)
                  · rw [if_pos c2, m178 (by decide), if_pos rfl]
                    exact nx _ _ (by rw [if_neg (by omega)])
                  · rw [if_neg c2, m178 (by decide), if_neg (by decide)]
                    exact nx _ _ (by rw [if_pos ⟨by omega, by rw [z.2, decide_eq_true (by omega)]⟩])
        -- the plateau's first sound
        refine t_254_30 o204 ?_
        rw [e69, e64, e50, xi.2.1, xi.2.2.2]
        refine ⟨by omega, by omega, ?_⟩
        rw [if_neg (by omega)]
        refine ⟨xi.1, xi.2.2.1, xi.1, xi.2.2.1, by omega, by omega, ?_⟩
        rw [if_pos rfl]
        exact inner (l.length - (i + 1)) (i + 1) _ (by omega) (by omega) (by rw [show ((i + 1 : Nat) : Int) - 1 = i by omega]) (by rw [Nat.add_sub_cancel])
    refine key l.length 0 0 true _ _ (by omega) (by omega) (fun _ => Or.inl ⟨rfl, rfl⟩) (fun M' g => ?_)
    rw [List.drop_zero, Int.zero_add]
    exact hQ M' g
end HI
