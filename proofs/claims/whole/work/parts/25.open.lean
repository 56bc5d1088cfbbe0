/-! OPENING, on both sides. -/
def okO (L : Lw) (s : Int) : Bool := decide (0 ≤ s ∧ s < Ln L) && !pkn L s
def opnR (L : Lw) (W : List (List Int)) : List Int → List Int → Int
  | l, [] => kind L W l
  | l, s :: r => if s = -1 then kind L W l else if okO L s = true then opnR L W (l ++ [s]) r else -1
theorem opnR_c (L : Lw) (W : List (List Int)) (l : List Int) (s : Int) (r : List Int) : opnR L W l (s :: r) = if s = -1 then kind L W l else if okO L s = true then opnR L W (l ++ [s]) r else -1 := rfl
def aOpn (L : Lw) (W : List (List Int)) (a b c d : Int) : Int := opnR L W [] [a, b, c, d]
section OP
variable {M : Mem} {p q a b c d : Int} {L : Lw} {W S : List (List Int)} {cc : Int → Int}
theorem s84 {Q : Int → Mem → Prop} {l : List Int} {s : Int} (hd : dg l) (hl : l.length ≤ 12) (hs : 0 ≤ s ∧ s < 16) : WL 84 [vL (keyOf l), vI s] M Q = Q (keyOf (l ++ [s])) M := by
  have hp := key_pos hd
  have hlt := key_lt hd (by omega)
  refine FN.wl (WC.fn (t_84 ?_))
  rw [and32_15, show s % 16 = s by omega, or64_key (by omega) hlt hs.1 hs.2, ← keyOf_snoc]
  exact ⟨rfl, rfl⟩
theorem cOpn {Q : Int → Mem → Prop} (h : ClsQ M p q L W S cc) (ha : inR a) (hb : inR b) (hc : inR c) (hd : inR d) : WI 150 [vR 1, vI a, vI b, vI c, vI d] M Q = Q (aOpn L W a b c d) M := by
  have hL := h.1.1
  have p7 := h.2.2.2.2.2.2.2.2.2.2.2.1
  have h0 : M p 0 = p + 1 := hL.2.1.1
  have e6 := hL.o.2.2
  have hn16 := hL.n.2
  refine FN.wi (WC.fn (t_150 o1.1 ?_))
  have k1 : (1 : Int) = keyOf [] := rfl
  have base : ∀ (l : List Int) (v : Int), onl L l → l.length ≤ 4 → kind L W l = v → ((shA SH (M 1 7)).1 = 2) ∧ WI 48 [vR (M 1 7), vL (keyOf l)] M (fun y3 M2 => vI y3 = vI v ∧ M2 = M) := by
    intro l v ho hl e
    rw [p7, s48 hL h.1.2.1 (fun s hs => by have := ho s hs; omega) (by omega), e]
    exact ⟨hL.o.1.2, rfl, rfl⟩
  have bod : ∀ (s v i : Int) (l : List Int) (r : List Int), inR s → onl L l → l.length ≤ 3 → opnR L W l (s :: r) = v → (onl L (l ++ [s]) → (l ++ [s]).length = l.length + 1 → opnR L W (l ++ [s]) r = v → WR 150 6 [some (vR 1), some (vI a), some (vI b), some (vI c), some (vI d), some (vL (keyOf (l ++ [s]))), none, some (vI (i + 1)), some (vI s)] [] M (fun r M' => r = vI v ∧ M' = M)) → (inR s ∧ (if s = (-1) then (((shA SH (M 1 7)).1 = 2) ∧ WI 48 [vR (M 1 7), vL (keyOf l)] M (fun y60 M59 => vI y60 = vI v ∧ M59 = M)) else ((gO 2 (M 1 7)) ∧ ((shA SH (M (M 1 7) 0)).1 = 6) ∧ WI 90 [vR (M (M 1 7) 0), vI s] M (fun y50 M49 => inR y50 ∧ (if y50 = 0 then (vI (-1) = vI v ∧ M49 = M) else ((gO 2 (M49 1 7)) ∧ ((shA SH (M49 (M49 1 7) 0)).1 = 6) ∧ WI 94 [vR (M49 (M49 1 7) 0), vI s] M49 (fun y53 M52 => inR y53 ∧ (if y53 = 0 then (WL 84 [vL (keyOf l), vI s] M52 (fun y56 M55 => WR 150 6 [some (vR 1), some (vI a), some (vI b), some (vI c), some (vI d), some (vL y56), none, some (vI (i + 1)), some (vI s)] [] M55 (fun r M' => r = vI v ∧ M' = M))) else (vI (-1) = vI v ∧ M52 = M))))))))) := by
    intro s v i l r hs ho hl e nx
    refine ⟨hs, ?_⟩
    rw [opnR_c] at e
    by_cases q1 : s = -1
    · rw [if_pos q1] at e ⊢
      exact base l v ho (by omega) e
    rw [if_neg q1] at e ⊢
    rw [p7, h0, s90 hL hs]
    refine ⟨hL.o.1, e6, by have := b2i_r (decide (0 ≤ s ∧ s < (Ln L : Int))); omega, ?_⟩
    unfold okO at e
    by_cases q2 : 0 ≤ s ∧ s < (Ln L : Int)
    · rw [decide_eq_true q2, if_neg (by decide), p7, h0, s94 hL hs]
      rw [decide_eq_true q2, Bool.true_and] at e
      refine ⟨hL.o.1, e6, by have := b2i_r (pkn L s); omega, ?_⟩
      cases hp : pkn L s
      · rw [hp, if_pos (by decide)] at e
        rw [if_pos (by decide), s84 (fun s hs => by have := ho s hs; omega) (by omega) (by omega)]
        refine nx (fun t ht => ?_) (by simp) e
        rcases List.mem_append.mp ht with z | z
        · exact ho t z
        · rw [List.mem_singleton.mp z]; exact q2
      · rw [hp, if_neg (by decide)] at e
        rw [if_neg (by decide)]
        exact ⟨by rw [e], rfl⟩
    · rw [decide_eq_false q2, if_pos (by decide)]
      rw [decide_eq_false q2, Bool.false_and, if_neg (by decide)] at e
      exact ⟨by rw [e], rfl⟩
  rw [k1]
  refine t_150_6 o1.1 ⟨by decide, ?_⟩
  rw [if_neg (by decide), if_pos (by decide)]
  refine bod a _ 0 [] [b, c, d] ha (fun s hs => by cases hs) (by decide) rfl (fun o1' l1 e1 => ?_)
  refine t_150_6 o1.1 ⟨by decide, ?_⟩
  rw [if_neg (by decide), if_neg (by decide), if_pos (by decide)]
  refine bod b _ _ _ [c, d] hb o1' (by rw [l1]; decide) e1 (fun o2 l2 e2 => ?_)
  refine t_150_6 o1.1 ⟨by decide, ?_⟩
  rw [if_neg (by decide), if_neg (by decide), if_neg (by decide), if_pos (by decide)]
  refine bod c _ _ _ [d] hc o2 (by rw [l2, l1]; decide) e2 (fun o3 l3 e3 => ?_)
  refine t_150_6 o1.1 ⟨by decide, ?_⟩
  rw [if_neg (by decide), if_neg (by decide), if_neg (by decide), if_neg (by decide)]
  refine bod d _ _ _ [] hd o3 (by rw [l3, l2, l1]; decide) e3 (fun o4 l4 e4 => ?_)
  refine t_150_6 o1.1 ⟨by decide, ?_⟩
  rw [if_pos (by decide)]
  exact base _ _ o4 (by rw [l4, l3, l2, l1]; decide) e4
theorem mOpn {Q : Int → Mem → Prop} (h : MdlQ M L W S cc) (ha : inR a) (hb : inR b) (hc : inR c) (hd : inR d) (hQ : ∀ M' : Mem, FrM M M' → Q (aOpn L W a b c d) M') : WI 237 [vR 204, vI a, vI b, vI c, vI d] M Q := by
  have hw := h.1.2.2.2.2
  have hn := hw.1.1
  refine t_237 o204 ?_
  have fr : ∀ {N : Mem}, (∀ k : Int, k ≠ 237 → N k = M k) → FrM M N := fun {N} g => ⟨fun k a b => g k (by omega), fun j _ _ _ _ => by rw [g 204 (by decide)]⟩
  have e71 : ∀ {N : Mem}, (∀ k : Int, k ≠ 237 → N k = M k) → N 204 71 = 237 := fun {N} g => (h.fr (fr g)).1.1.at (by decide)
  -- behind the last one
  have last : ∀ (l : List Int) (x6 i : Int) (l8 : Option AV) (N : Mem), 4 ≤ i → inR i → onl L l → l.length ≤ 4 → kind L W l = aOpn L W a b c d → (∀ k : Int, k ≠ 237 → N k = M k) → SegIs N 237 0 l → WR 237 9 [some (vR 204), some (vI a), some (vI b), some (vI c), some (vI d), some (vI l.length), some (vI x6), some (vI i), l8] [] N (fun r M' => ∃ x, r = vI x ∧ Q x M') := by
    intro l x6 i l8 N hi hir ho hl e g hs
    have hN := h.fr (fr g)
    refine t_237_9 o204 ⟨hir, ?_⟩
    rw [if_pos hi, e71 g, m235 hN.1 hN.2.1 ⟨by rw [z239.2.2], by decide, by rw [z239.2.2]; show 0 + (l.length : Int) ≤ ((4 : Nat) : Int); omega⟩ hs ho (by omega) (by decide), e]
    exact ⟨_, rfl, hQ N (fr g)⟩
  have ended : ∀ (n : Nat) (i : Int) (l : List Int) (l8 : Option AV) (N : Mem), 0 ≤ i → i + n = 4 → onl L l → l.length ≤ 4 → kind L W l = aOpn L W a b c d → (∀ k : Int, k ≠ 237 → N k = M k) → SegIs N 237 0 l → WR 237 9 [some (vR 204), some (vI a), some (vI b), some (vI c), some (vI d), some (vI l.length), some (vI 1), some (vI i), l8] [] N (fun r M' => ∃ x, r = vI x ∧ Q x M') := by
    intro n
    induction n with
    | zero =>
      intro i l l8 N hi hn ho hl e g hs
      exact last l 1 i l8 N (by omega) (by omega) ho hl e g hs
    | succ n ih =>
      intro i l l8 N hi hn ho hl e g hs
      refine t_237_9 o204 ⟨by omega, ?_⟩
      rw [if_neg (by omega)]
      have n10 : ¬ (1 : Int) = 0 := by decide
      by_cases q0 : i = 0
      · rw [if_pos q0]
        exact ⟨by decide, by rw [if_neg n10]; exact ih (i + 1) l _ N (by omega) (by omega) ho hl e g hs⟩
      rw [if_neg q0]
      by_cases q1 : i = 1
      · rw [if_pos q1]
        exact ⟨by decide, by rw [if_neg n10]; exact ih (i + 1) l _ N (by omega) (by omega) ho hl e g hs⟩
      rw [if_neg q1]
      by_cases q2 : i = 2
      · rw [if_pos q2]
        exact ⟨by decide, by rw [if_neg n10]; exact ih (i + 1) l _ N (by omega) (by omega) ho hl e g hs⟩
      rw [if_neg q2]
      exact ⟨by decide, by rw [if_neg n10]; exact ih (i + 1) l _ N (by omega) (by omega) ho hl e g hs⟩
  have bod : ∀ (s i : Int) (l r : List Int) (N : Mem), inR s → 0 ≤ i → i < 4 → onl L l → l.length ≤ 3 → (∀ k : Int, k ≠ 237 → N k = M k) → SegIs N 237 0 l → opnR L W l (s :: r) = aOpn L W a b c d → (∀ (N' : Mem), onl L (l ++ [s]) → (l ++ [s]).length = l.length + 1 → opnR L W (l ++ [s]) r = aOpn L W a b c d → (∀ k : Int, k ≠ 237 → N' k = M k) → SegIs N' 237 0 (l ++ [s]) → WR 237 9 [some (vR 204), some (vI a), some (vI b), some (vI c), some (vI d), some (vI (l ++ [s]).length), some (vI 0), some (vI (i + 1)), some (vI s)] [] N' (fun r M' => ∃ x, r = vI x ∧ Q x M')) → (inR (0 : Int) ∧ (if (0 : Int) = 0 then (inR s ∧ (if s = (-1) then (WR 237 9 [some (vR 204), some (vI a), some (vI b), some (vI c), some (vI d), some (vI l.length), some (vI 1), some (vI (i + 1)), some (vI s)] [] N (fun r M' => ∃ x, r = vI x ∧ Q x M')) else (WI 177 [vL (wr32 s), vL 0, vL (wr32 ((N 204 38) - 1))] N (fun y45 M44 => inR y45 ∧ (if y45 = 0 then (∃ x, vI (-1) = vI x ∧ Q x M44) else (WI 225 [vR 204, vI s] M44 (fun y48 M47 => inR y48 ∧ (if y48 = 0 then ((gA 20 (M47 204 71) l.length) ∧ WR 237 9 [some (vR 204), some (vI a), some (vI b), some (vI c), some (vI d), some (vI (l.length + 1)), some (vI 0), some (vI (i + 1)), some (vI s)] [] (upM M47 (M47 204 71) l.length s) (fun r M' => ∃ x, r = vI x ∧ Q x M')) else (∃ x, vI (-1) = vI x ∧ Q x M47))))))))) else (WR 237 9 [some (vR 204), some (vI a), some (vI b), some (vI c), some (vI d), some (vI l.length), some (vI 1), some (vI (i + 1)), some (vI s)] [] N (fun r M' => ∃ x, r = vI x ∧ Q x M')))) := by
    intro s i l r N hs i0 i4 ho hl g hsg e nx
    have hN := h.fr (fr g)
    refine ⟨by decide, ?_⟩
    rw [if_pos rfl]
    refine ⟨hs, ?_⟩
    rw [opnR_c] at e
    by_cases q1 : s = -1
    · rw [if_pos q1] at e ⊢
      exact ended (4 - (i + 1)).toNat (i + 1) l _ N (by omega) (by omega) ho (by omega) e g hsg
    rw [if_neg q1] at e ⊢
    rw [hN.1.2.1.1, wr_id hs, wr_id (show inR ((Ln L : Int) - 1) by omega), m177 (by omega) (by decide) (by omega)]
    refine ⟨by have := b2i_r (decide (0 ≤ s ∧ s ≤ (Ln L : Int) - 1)); omega, ?_⟩
    unfold okO at e
    by_cases q2 : 0 ≤ s ∧ s < (Ln L : Int)
    · rw [decide_eq_true (show 0 ≤ s ∧ s ≤ (Ln L : Int) - 1 by omega), if_neg (by decide), m225 hN.1 q2.1 q2.2]
      rw [decide_eq_true q2, Bool.true_and] at e
      refine ⟨by have := b2i_r (pkn L s); omega, ?_⟩
      cases hp : pkn L s
      · rw [hp, if_pos (by decide)] at e
        rw [if_pos (by decide), e71 g]
        refine ⟨gC z239.2.2 (by omega) (by show _ < ((4 : Nat) : Int); omega), ?_⟩
        have hl1 : (l ++ [s]).length = l.length + 1 := by simp
        have := nx (upM N 237 l.length s) (fun t ht => by
          rcases List.mem_append.mp ht with z | z
          · exact ho t z
          · rw [List.mem_singleton.mp z]; exact q2) hl1 e (fun k a => by rw [upM_o a]; exact g k a) (fun j a q => by
          rw [Int.zero_add, gi_app a]
          by_cases z : j < l.length
          · rw [if_pos z, upM_f (by omega)]
            have := hsg j a z
            rw [Int.zero_add] at this
            exact this
          · rw [if_neg z, show j = (l.length : Int) by omega, upM_s, Int.sub_self]
            rfl)
        rw [hl1] at this
        exact this
      · rw [hp, if_neg (by decide)] at e
        rw [if_neg (by decide)]
        exact ⟨_, rfl, by rw [e]; exact hQ N (fr g)⟩
    · rw [decide_eq_false (show ¬ (0 ≤ s ∧ s ≤ (Ln L : Int) - 1) by omega), if_pos (by decide)]
      rw [decide_eq_false q2, Bool.false_and, if_neg (by decide)] at e
      exact ⟨_, rfl, by rw [e]; exact hQ N (fr g)⟩
  refine t_237_9 o204 ⟨by decide, ?_⟩
  rw [if_neg (by decide), if_pos (by decide)]
  refine bod a 0 [] [b, c, d] M ha (by decide) (by decide) (fun s hs => by cases hs) (by decide) (fun _ _ => rfl) (fun j a q => absurd q (by show ¬ j < 0; omega)) rfl (fun N1 o1 l1 e1 g1 s1 => ?_)
  refine t_237_9 o204 ⟨by decide, ?_⟩
  rw [if_neg (by decide), if_neg (by decide), if_pos (by decide)]
  refine bod b _ _ [c, d] N1 hb (by decide) (by decide) o1 (by rw [l1]; decide) g1 s1 e1 (fun N2 o2 l2 e2 g2 s2 => ?_)
  refine t_237_9 o204 ⟨by decide, ?_⟩
  rw [if_neg (by decide), if_neg (by decide), if_neg (by decide), if_pos (by decide)]
  refine bod c _ _ [d] N2 hc (by decide) (by decide) o2 (by rw [l2, l1]; decide) g2 s2 e2 (fun N3 o3 l3 e3 g3 s3 => ?_)
  refine t_237_9 o204 ⟨by decide, ?_⟩
  rw [if_neg (by decide), if_neg (by decide), if_neg (by decide), if_neg (by decide)]
  refine bod d _ _ [] N3 hd (by decide) (by decide) o3 (by rw [l3, l2, l1]; decide) g3 s3 e3 (fun N4 o4 l4 e4 g4 s4 => ?_)
  exact last _ _ _ _ N4 (by decide) (by decide) o4 (by rw [l4, l3, l2, l1]; decide) e4 g4 s4
end OP
