/-! A CUT AS IT IS TOLD, words joined: by the class. -/
def tldD : List Int → Int → Option (List Int)
  | [], x => if x = 0 then some [] else none
  | b :: bs, x => if b < x % 16 then none else match tldD bs (x % 18446744073709551616 / 16) with
    | some d => some (x % 16 :: d)
    | none => none
theorem tld_big : ∀ (bs : List Int) (x : Int), (16 : Int) ^ bs.length ≤ x → x < 18446744073709551616 → tldD bs x = none
  | [], x, h, _ => by
    have h : (1 : Int) ≤ x := h
    rw [tldD, if_neg (by omega)]
  | b :: bs, x, h, h2 => by
    rw [List.length_cons, Int.pow_succ] at h
    have := p16_pos bs.length
    rw [tldD]
    split
    · rfl
    · rw [key_m (by omega) h2, tld_big bs (x / 16) (by omega) (by omega)]
theorem tld_neg {bs : List Int} {x : Int} (hb : bs.length ≤ 11) (h : x < 0) (h2 : -9223372036854775808 ≤ x) : tldD bs x = none := by
  cases bs with
  | nil => rw [tldD, if_neg (by omega)]
  | cons b bs =>
    rw [List.length_cons] at hb
    have h1 := p16_le (show bs.length ≤ 10 by omega)
    have h3 : (16 : Int) ^ 10 = 1099511627776 := by decide
    rw [tldD]
    split
    · rfl
    · rw [tld_big bs _ (by omega) (by omega)]
section TO
variable {M : Mem} {p r : Int} {L : Lw} {W : List (List Int)} {l : List Int} {X : Ct}
theorem s21 {Q : Int → Mem → Prop} {x : Int} (h : CutIs M p L W X) (hx : in64 x) (hQ : ∀ M' : Mem, (∀ k : Int, k ≠ 12 → M' k = M k) → match (if cnt X = 0 then none else tldD (bsL X) x) with
    | some e => e.length = X.2.1.length - 1 → CutIs M' p L W (wG X e) → Q 1 M'
    | none => Q 0 M') : WI 21 [vR 9, vL x] M Q := by
  have hH := h.1.2.2.2.2.1
  have hc12 := hH.1
  have hcl : cnt X = X.2.1.length := rfl
  have hbl := bsL_len X
  have hcM : ∀ k : Int, 0 ≤ k → k < cnt X → M 12 k = if k + 1 = cnt X then beh X k else Xg X k := h.2.1
  have key : ∀ (n : Nat) (pre : List Int) (y : Int) (l6 : Option AV) (N : Mem) (P : AV → Mem → Prop), pre.length + n = X.2.1.length - 1 → 0 < cnt X → in64 y → (∀ k : Int, k ≠ 12 → N k = M k) → (∀ k : Int, 0 ≤ k → k < cnt X → N 12 k = if k + 1 = cnt X then beh X k else if k < pre.length then gi pre k else Xg X k) → (∀ k : Int, 0 ≤ k → k < pre.length → 0 ≤ gi pre k ∧ gi pre k ≤ beh X k) → (∀ M' : Mem, (∀ k : Int, k ≠ 12 → M' k = M k) → match tldD ((bsL X).drop pre.length) y with
      | some e => (pre ++ e).length = X.2.1.length - 1 → CutIs M' p L W (wG X (pre ++ e)) → P (vI 1) M'
      | none => P (vI 0) M') → WR 21 14 [some (vR 9), some (vL x), none, some (vL y), none, some (vI pre.length), l6] [] N P := by
    intro n
    induction n with
    | zero =>
      intro pre y l6 N P hn hc hy hN hk hpre hP
      have hC := h.1.up (M' := N) (fun k a _ => hN k a)
      refine t_21_14 sh_cut.1 ?_
      rw [hC.2.2.2.1.2.2.2.2.2.1]
      refine ⟨by omega, by omega, ?_⟩
      rw [if_pos (by omega)]
      refine ⟨⟨hy, by decide⟩, cmp3_r _ _, ?_⟩
      have := hP N hN
      rw [List.drop_eq_nil_of_le (show (bsL X).length ≤ pre.length by omega), tldD] at this
      by_cases q : y = 0
      · rw [if_pos ((cmp3 _ _).mpr q)]
        rw [if_pos q] at this
        dsimp only at this
        rw [List.append_nil] at this
        refine this (by omega) ⟨hC.g _, fun k a b => ?_, wG_g h.2.2 (fun k a b => hpre k a (by omega))⟩
        replace b : k < cnt X := b
        rw [hk k a b]
        show _ = if k + 1 = cnt X then beh X k else gi pre k
        by_cases q : k + 1 = cnt X
        · rw [if_pos q, if_pos q]
        · rw [if_neg q, if_neg q, if_pos (by omega)]
      · rw [if_neg (fun z => q ((cmp3 _ _).mp z))]
        rw [if_neg q] at this
        exact this
    | succ n ih =>
      intro pre y l6 N P hn hc hy hN hk hpre hP
      have hC := h.1.up (M' := N) (fun k a _ => hN k a)
      have hb := beh_r hH (k := (pre.length : Int)) (by omega) (by omega)
      refine t_21_14 sh_cut.1 ?_
      rw [hC.2.2.2.1.2.2.2.2.2.1, s15 hC (by omega) (by omega), and64_15, hC.2.2.2.1.2.2.1]
      refine ⟨by omega, by omega, ?_⟩
      rw [if_neg (by omega)]
      refine ⟨by omega, by omega, ?_⟩
      have eb : (bsL X).drop pre.length = beh X pre.length :: (bsL X).drop (pre.length + 1) := by
        rw [drop_cons (by omega), bsL_gi (by omega) (by omega)]
      rw [eb] at hP
      have et : tldD (beh X pre.length :: (bsL X).drop (pre.length + 1)) y = if beh X pre.length < y % 16 then none else match tldD ((bsL X).drop (pre.length + 1)) (y % 18446744073709551616 / 16) with
        | some d => some (y % 16 :: d)
        | none => none := by rw [tldD]
      rw [et] at hP
      by_cases q : y % 16 ≤ beh X pre.length
      · rw [if_pos q]
        rw [if_neg (by omega)] at hP
        refine ⟨⟨by rw [sh_cut.2.2.2.1], by omega, by rw [sh_cut.2.2.2.1]; show _ < ((12 : Nat) : Int); omega⟩, ?_⟩
        have hpl : (pre ++ [y % 16]).length = pre.length + 1 := by simp
        have := ih (pre ++ [y % 16]) (y % 18446744073709551616 / 16) (some (vI (y % 16))) (upM N 12 pre.length (y % 16)) P (by omega) hc (by omega) (fun k a => by rw [upM_o a]; exact hN k a) (fun k a b => ?_) (fun k a b => ?_) (fun M' g => ?_)
        · rw [hpl] at this
          exact this
        · by_cases e : k = pre.length
          · rw [e, upM_s, if_neg (by omega), if_pos (by omega), gi_app (by omega), if_neg (by omega), Int.sub_self]
            rfl
          · rw [upM_f e, hk k a b]
            by_cases q1 : k + 1 = cnt X
            · rw [if_pos q1, if_pos q1]
            · rw [if_neg q1, if_neg q1]
              by_cases q2 : k < pre.length
              · rw [if_pos q2, if_pos (by omega), gi_app a, if_pos q2]
              · rw [if_neg q2, if_neg (by omega)]
        · rw [gi_app a]
          by_cases q2 : k < pre.length
          · rw [if_pos q2]
            exact hpre k a q2
          · rw [if_neg q2, show k - (pre.length : Int) = 0 by omega, show k = pre.length by omega]
            exact ⟨by show 0 ≤ y % 16; omega, q⟩
        · have := hP M' g
          rw [hpl]
          cases hd : tldD ((bsL X).drop (pre.length + 1)) (y % 18446744073709551616 / 16) with
          | none =>
            rw [hd] at this
            exact this
          | some e =>
            rw [hd] at this
            dsimp only at this ⊢
            rw [List.append_assoc, List.singleton_append]
            exact this
      · rw [if_neg q]
        rw [if_pos (by omega)] at hP
        exact hP N hN
  refine t_21 sh_cut.1 ?_
  rw [h.1.2.2.2.1.2.2.2.2.2.1]
  refine ⟨by omega, ?_⟩
  by_cases q : cnt X = 0
  · rw [if_pos q]
    have := hQ M (fun _ _ => rfl)
    rw [if_pos q] at this
    exact ⟨0, rfl, this⟩
  · rw [if_neg q]
    refine key (X.2.1.length - 1) [] x _ M _ (by simp) (by omega) hx (fun _ _ => rfl) (fun k a b => ?_) (fun k a b => absurd b (by simp; omega)) (fun M' g => ?_)
    · rw [hcM k a b]
      by_cases q1 : k + 1 = cnt X
      · rw [if_pos q1, if_pos q1]
      · rw [if_neg q1, if_neg q1, if_neg (by simp; omega)]
    · have := hQ M' g
      rw [if_neg q] at this
      rw [List.length_nil, List.drop_zero]
      cases hd : tldD (bsL X) x with
      | none =>
        rw [hd] at this
        exact ⟨0, rfl, this⟩
      | some e =>
        rw [hd] at this
        exact fun a b => ⟨1, rfl, this a b⟩
def wJ (X : Ct) (cm wn : Int) (A : List Int) : Ct := (X.1, X.2.1, X.2.2.1, cm, wn, A)
theorem s22 {Q : Mem → Prop} {a cm wn : Int} {A : List Int} (h : CutIs M p L W X) (ha : 0 ≤ a) (hA : a = 0 ∨ RowIs M a A) (hG : GOk (wJ X (if a = 0 then 0 else cm) wn A)) (hQ : ∀ M' : Mem, FrC M M' → CutIs M' p L W (wJ X (if a = 0 then 0 else cm) wn A) → Q M') : WV 22 [vR 9, vR a, vI cm, vI wn] M Q := by
  have main : ∀ z : Int, z = (if a = 0 then 0 else cm) → Q (upM (upM (upM M 9 6 a) 9 7 z) 9 8 wn) := by
    intro z hz
    have o : ∀ k : Int, k ≠ 9 → upM (upM (upM M 9 6 a) 9 7 z) 9 8 wn k = M k := fun k q => by rw [upM_o q, upM_o q, upM_o q]
    have f : ∀ j : Int, j < 6 ∨ 8 < j → upM (upM (upM M 9 6 a) 9 7 z) 9 8 wn 9 j = M 9 j := fun j q => by rw [upM_f (by omega), upM_f (by omega), upM_f (by omega)]
    have f6 : upM (upM (upM M 9 6 a) 9 7 z) 9 8 wn 9 6 = a := by rw [upM_f (by decide), upM_f (by decide), upM_s]
    have f7 : upM (upM (upM M 9 6 a) 9 7 z) 9 8 wn 9 7 = z := by rw [upM_f (by decide), upM_s]
    have f8 : upM (upM (upM M 9 6 a) 9 7 z) 9 8 wn 9 8 = wn := upM_s
    generalize upM (upM (upM M 9 6 a) 9 7 z) 9 8 wn = N at o f f6 f7 f8 ⊢
    have hF : FrC M N := ⟨fun k q => o k (by omega), fun j q0 q3 => f j (by omega)⟩
    refine hQ N hF ?_
    have hno : ∀ {r : Int} {l : List Int}, RowIs M r l → RowIs N r l := fun hr => hr.no hF.1
    obtain ⟨⟨h1, h2, h3, h4, h5, h6, h7⟩, h8, h9⟩ := h
    rw [← hz] at hG ⊢
    refine ⟨⟨h1.fr hF.fr, h2.fr (lw8 h1.1) hF.fr, ?_, ?_, h5, ?_, ?_⟩, ?_, hG⟩
    · rw [f 5 (by decide)]; exact hno h3
    · rw [f 0 (by decide), f 1 (by decide), f 2 (by decide), f 3 (by decide), f 4 (by decide), f 9 (by decide), f7, f8]
      exact ⟨h4.1, h4.2.1, h4.2.2.1, h4.2.2.2.1, h4.2.2.2.2.1, h4.2.2.2.2.2.1, rfl, rfl⟩
    · intro k q0 q1
      rw [o 10 (by decide), o 11 (by decide)]
      exact h6 k q0 q1
    · intro hx
      replace hx : 0 < z := hx
      rw [f6]
      rcases hA with q | q
      · rw [if_pos q] at hz; omega
      · exact hno q
    · intro k q0 q1
      rw [o 12 (by decide)]
      exact h8 k q0 q1
  refine t_22 sh_cut.1 ⟨ha, by omega, ?_⟩
  by_cases q : a = 0
  · rw [if_pos q]
    exact main 0 (by rw [if_pos q])
  · rw [if_neg q]
    exact main cm (by rw [if_neg q])
end TO
