/-! law by the model -/
section MLW
variable {M M' : Mem} {fp ft ft' fp' : Int} {T T' : List Int} {t : Tk} {g : Gs} {L : Lw} {W S : List (List Int)} {c : Int → Int} {A : List Sn}
/-- the state when only the reader, the tables being made and the words being read have changed -/
theorem MdlS.rd (h : MdlS M T ft fp L W S c A) (e : ∀ k : Int, 218 ≤ k → k ≠ 228 → k ≠ 229 → M' k = M k) (f : ∀ j : Int, (j < 1 ∨ 11 < j) → ¬ (13 ≤ j ∧ j ≤ 26) → M' 204 j = M 204 j) (hT : TapM M' T' ft' fp') : MdlS M' T' ft' fp' L W S c A := by
  obtain ⟨h1, h2, h3, h4⟩ := h
  obtain ⟨⟨a1, a2, a3, a4, a5⟩, b, d, e4⟩ := h1
  have E := e
  have F : ∀ j : Int, 27 ≤ j → M' 204 j = M 204 j := fun j a => f j (by omega) (by omega)
  refine ⟨⟨⟨?_, ?_, ?_, ?_, a5⟩, ?_, ?_, ?_⟩, ?_, hT, ?_⟩
  · intro x hx
    have : ∀ q ∈ mpT, (q.1 < 1 ∨ 11 < q.1) ∧ ¬ (13 ≤ q.1 ∧ q.1 ≤ 26) := by decide
    rw [f x.1 (this x hx).1 (this x hx).2]
    exact a1 x hx
  · unfold MSnd at a2 ⊢
    rw [F 38 (by decide), E 218 (by decide) (by decide) (by decide), E 219 (by decide) (by decide) (by decide), E 220 (by decide) (by decide) (by decide), E 221 (by decide) (by decide) (by decide)]
    exact a2
  · unfold MTld SegIs at a3 ⊢
    rw [F 39 (by decide), F 40 (by decide), E 222 (by decide) (by decide) (by decide), E 223 (by decide) (by decide) (by decide), E 224 (by decide) (by decide) (by decide)]
    exact a3
  · unfold MNum at a4 ⊢
    rw [F 41 (by decide), F 42 (by decide), F 43 (by decide), F 44 (by decide), F 45 (by decide), F 46 (by decide), F 47 (by decide), E 225 (by decide) (by decide) (by decide)]
    exact a4
  · unfold MLrn SegIs at b ⊢
    rw [E 230 (by decide) (by decide) (by decide)]
    exact b
  · unfold MSpk SegIs at d ⊢
    rw [E 226 (by decide) (by decide) (by decide), E 227 (by decide) (by decide) (by decide), F 56 (by decide)]
    exact d
  · unfold MCost at e4 ⊢
    rw [E 230 (by decide) (by decide) (by decide)]
    exact e4
  · exact h2.e (F 84 (by decide)) (fun k x y => E k (by omega) (by omega) (by omega))
  · exact h4.fr (F 63 (by decide)) (E 231 (by decide) (by decide) (by decide))
theorem m209e {Q : AV → Mem → Prop} {e : Int × Int} (hS : StM M T fp (.error e)) (hQ : (1 ≤ e.1 ∧ e.1 ≤ 5) → Q (vI (-1)) (upM (upM M 204 10 e.1) 204 11 e.2)) : WR 209 8 [some (vR 204)] [] M Q := by
  obtain ⟨he, t, ht⟩ := hS
  refine t_209_8 o204 ?_
  have f8 := ht.2.2.2.1
  have f9 := ht.2.2.2.2
  rw [m189 f8 (by omega), decide_eq_false (by omega)]
  refine ⟨by decide, ?_⟩
  rw [if_pos (by decide), f8]
  have e9 : upM M 204 10 e.1 204 9 = e.2 := by rw [upM_f (by decide)]; exact f9
  rw [e9]
  have e8 : upM (upM M 204 10 e.1) 204 11 e.2 204 8 = e.1 := by rw [upM_f (by decide), upM_f (by decide)]; exact f8
  rw [e8]
  refine ⟨by omega, ?_⟩
  rw [if_neg (by omega)]
  exact hQ he
theorem m209l {Q : Int → Mem → Prop} : ∀ (n : Nat) (t : Tk) (g : Gs) (N : Mem), T.length ≤ t.2.1 + n → StM N T (-1) (.ok (t, g)) → (∀ M' : Mem, FrN N M' → match lawR T n t g with
    | .error e => (1 ≤ e.1 ∧ e.1 ≤ 5) → Q (-1) (upM (upM M' 204 10 e.1) 204 11 e.2)
    | .ok g' => Stg M' g' → PtrM M' → WV 210 [vR 204] (upM (upM M' 204 10 0) 204 11 (-1)) (fun M5 => Q (M5 204 38) M5)) → WR 209 8 [some (vR 204)] [] N (fun r M' => ∃ i, r = vI i ∧ Q i M') := by
  -- at the end
  have done : ∀ (t : Tk) (g : Gs) (N : Mem), t.1 = 0 → StM N T (-1) (.ok (t, g)) → (Stg N g → PtrM N → WV 210 [vR 204] (upM (upM N 204 10 0) 204 11 (-1)) (fun M5 => Q (M5 204 38) M5)) → WR 209 8 [some (vR 204)] [] N (fun r M' => ∃ i, r = vI i ∧ Q i M') := fun t g N h0 hS hq => by
    obtain ⟨ht, hs, hp⟩ : TmR N T t 0 (-1) ∧ Stg N g ∧ PtrM N := hS
    obtain ⟨k4, e5, -, f8, f9⟩ := ht.sp
    refine t_209_8 o204 ?_
    rw [m189 f8 (by decide), e5, f8]
    refine ⟨by decide, ?_⟩
    rw [if_neg (by decide)]
    refine ⟨by omega, ?_⟩
    have e9 : upM N 204 10 0 204 9 = -1 := by rw [upM_f (by decide)]; exact f9
    have e8 : upM (upM N 204 10 0) 204 11 (-1) 204 8 = 0 := by rw [upM_f (by decide), upM_f (by decide)]; exact f8
    rw [if_pos h0, e9, e8]
    refine ⟨by decide, ?_⟩
    rw [if_pos (by decide)]
    exact (hq hs hp).mono (fun M' q => ⟨_, rfl, q⟩)
  intro n
  induction n with
  | zero =>
    intro t g N hl hS hQ
    have ok : TkOk T t := hS.1.2.2.1
    have h0 : t.1 = 0 := by
      by_cases q : t.1 = 0
      · exact q
      · have := ok.2.2.2.1 q
        have := ok.1
        omega
    exact done t g N h0 hS (hQ N FrN.rf)
  | succ n ih =>
    intro t g N hl hS hQ
    have ok : TkOk T t := hS.1.2.2.1
    have hp : PtrM N := hS.2.2
    unfold lawR at hQ
    by_cases q : t.1 = 0
    · rw [if_pos q] at hQ
      exact done t g N q hS (hQ N FrN.rf)
    rw [if_neg q] at hQ
    have ht : TmR N T t 0 (-1) := hS.1
    obtain ⟨k4, e5, -, f8, f9⟩ := ht.sp
    refine t_209_8 o204 ?_
    rw [m189 f8 (by decide), e5]
    refine ⟨by decide, ?_⟩
    rw [if_neg (by decide)]
    refine ⟨by omega, ?_⟩
    rw [if_neg q]
    refine m207 hp hS (fun M1 f1 h1 => ?_)
    have ge := @dir_ge T t g
    generalize dirR T t g = r at *
    cases r with
    | error e => exact m209e h1 (fun he => ⟨_, rfl, hQ M1 f1 he⟩)
    | ok y =>
      have := ge ok q rfl
      exact ih y.1 y.2 M1 (by omega) h1 (fun M' f' => hQ M' (f1.tr f'))
theorem mLaw {Q : Int → Mem → Prop} (h : MdlS M T ft fp L W S c A) (hQ : ∀ M' : Mem, match lawR T 900 (nxt T 0) G0 with
    | .error e => MdlS M' [] e.1 e.2 L W S c A → Q (-1) M'
    | .ok g => MdlS M' [] 0 (-1) g.1 g.2.1 [] g.2.2.1 [] → GsOk g → Q (Ln g.1) M') : WI 209 [vR 204] M Q := by
  have hT := h.2.2.1
  have hp := h.1.1.1
  have hl := hT.2.1
  refine t_209 o204 (m193 hp (fun M1 e1 f1 s1 => ?_))
  have hT1 : TapM M1 T ft fp := by
    unfold TapM at hT ⊢
    rw [f1 1 (by decide), f1 10 (by decide), f1 11 (by decide), e1 205 (by decide) (by decide)]
    exact hT
  have hp1 : PtrM M1 := fun x hx => by
    have : ∀ q ∈ mpT, ¬ (14 ≤ q.1 ∧ q.1 ≤ 26) := by decide
    rw [f1 x.1 (this x hx)]
    exact hp x hx
  refine m208 hT1 (hp1.at (by decide)) (hp1.at (by decide)) (fun M2 e2 f2 z2 h2 => ?_)
  have hp2 : PtrM M2 := fun x hx => by
    have : ∀ q ∈ mpT, (q.1 < 1 ∨ 9 < q.1) ∧ q.1 ≠ 13 := by decide
    rw [f2 x.1 (this x hx).1 (this x hx).2]
    exact hp1 x hx
  have s2 : Stg M2 G0 := s1.k (sd := fun _ => false) (se := fun _ => false) (fun k a b => e2 k (by omega) (by omega)) (fun j a b => f2 j (by omega) (by omega)) (by rw [f2 25 (by decide) (by decide)]; exact s1.2.2.2.2.2.1) (by rw [f2 26 (by decide) (by decide)]; exact s1.2.2.2.2.2.2.1) (fun _ => rfl)
  refine m209l 900 (nxt T 0) G0 M2 (by omega) ⟨h2, s2, hp2⟩ (fun M3 f3 => ?_)
  have E3 : ∀ k : Int, k ≠ 204 → ¬ (205 ≤ k ∧ k ≤ 217) → M3 k = M k := fun k a b => by rw [f3.1 k a (by omega), e2 k a (by omega), e1 k a (by omega)]
  have F3 : ∀ j : Int, (j < 1 ∨ 11 < j) → ¬ (13 ≤ j ∧ j ≤ 26) → M3 204 j = M 204 j := fun j a b => by rw [f3.2 j (by omega) b, f2 j (by omega) (by omega), f1 j (by omega)]
  have z3 : M3 204 1 = 0 := by rw [f3.2 1 (by decide) (by decide)]; exact z2
  generalize lawR T 900 (nxt T 0) G0 = r at *
  cases r with
  | error e =>
    intro he
    have o : ∀ k : Int, k ≠ 204 → upM (upM M3 204 10 e.1) 204 11 e.2 k = M3 k := fun k a => by rw [upM_o a, upM_o a]
    have u : ∀ j : Int, j ≠ 10 → j ≠ 11 → upM (upM M3 204 10 e.1) 204 11 e.2 204 j = M3 204 j := fun j a b => by rw [upM_f b, upM_f a]
    refine hQ _ (h.rd (fun k a _ _ => by rw [o k (by omega)]; exact E3 k (by omega) (by omega)) (fun j a b => by rw [u j (by omega) (by omega)]; exact F3 j a b) ⟨by rw [u 1 (by decide) (by decide)]; exact z3, by decide, fun b hb => absurd hb List.not_mem_nil, fun j hj => absurd hj (Nat.not_lt_zero _), by rw [upM_f (by decide), upM_s], upM_s⟩)
  | ok g =>
    intro hs hp3
    have o : ∀ k : Int, k ≠ 204 → upM (upM M3 204 10 0) 204 11 (-1) k = M3 k := fun k a => by rw [upM_o a, upM_o a]
    have u : ∀ j : Int, j ≠ 10 → j ≠ 11 → upM (upM M3 204 10 0) 204 11 (-1) 204 j = M3 204 j := fun j a b => by rw [upM_f b, upM_f a]
    have w10 : upM (upM M3 204 10 0) 204 11 (-1) 204 10 = 0 := by rw [upM_f (by decide), upM_s]
    have w11 : upM (upM M3 204 10 0) 204 11 (-1) 204 11 = -1 := upM_s
    generalize upM (upM M3 204 10 0) 204 11 (-1) = K at *
    have hg : GsOk g := hs.2.2.2.2.2.2.2
    have sK : Stg K g := hs.k (sd := g.2.2.2.1) (se := g.2.2.2.2) (fun k a b => o k (by omega)) (fun j a b => u j (by omega) (by omega)) (by rw [u 25 (by decide) (by decide)]; exact hs.2.2.2.2.2.1) (by rw [u 26 (by decide) (by decide)]; exact hs.2.2.2.2.2.2.1) hg.2.2.2.2
    have pK : PtrM K := fun x hx => by
      have : ∀ q ∈ mpT, q.1 ≠ 10 ∧ q.1 ≠ 11 := by decide
      rw [u x.1 (this x hx).1 (this x hx).2]
      exact hp3 x hx
    refine m210 pK sK (fun F eF fF w56 w63 w84 q1 q2 q3 q4 q5 => ?_)
    have pF : PtrM F := fun x hx => by
      have : ∀ q ∈ mpT, ¬ (38 ≤ q.1 ∧ q.1 ≤ 47) ∧ q.1 ≠ 56 ∧ q.1 ≠ 63 ∧ q.1 ≠ 84 := by decide
      obtain ⟨y1, y2, y3, y4⟩ := this x hx
      rw [fF x.1 y1 y2 y3 y4]
      exact pK x hx
    rw [q1.1]
    have hTF : TapM F [] 0 (-1) := ⟨by rw [fF 1 (by decide) (by decide) (by decide) (by decide), u 1 (by decide) (by decide)]; exact z3, by decide, fun b hb => absurd hb List.not_mem_nil, fun j hj => absurd hj (Nat.not_lt_zero _), by rw [fF 10 (by decide) (by decide) (by decide) (by decide)]; exact w10, by rw [fF 11 (by decide) (by decide) (by decide) (by decide)]; exact w11⟩
    exact hQ F ⟨⟨⟨pF, q1, q2, q3, hg.1⟩, q4, ⟨w56, by decide, fun i hi => absurd hi (Nat.not_lt_zero _)⟩, q5⟩, Or.inl w84, hTF, w63, by decide, fun j hj => absurd hj (Nat.not_lt_zero _)⟩ hg
end MLW
