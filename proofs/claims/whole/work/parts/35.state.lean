/-! THE STATE of both objects. -/
def sgn (b : Int) : Int := if b < 128 then b else b - 256
def bt (T : List Int) (j : Nat) : Int := T.getD j 0
def byt (T : List Int) : Prop := ∀ b ∈ T, 0 ≤ b ∧ b < 256
def TapC (M : Mem) (T : List Int) (ft fp : Int) : Prop := M 2 0 = 3 ∧ M 2 1 = T.length ∧ T.length ≤ 900 ∧ byt T ∧ (∀ j : Nat, j < T.length → M 3 j = sgn (bt T j)) ∧ M 2 5 = ft ∧ M 2 6 = fp
def RdP (M : Mem) : Prop := M 4 0 = 2 ∧ M 4 1 = 5 ∧ M 4 2 = 7 ∧ M 4 3 = 8 ∧ M 5 0 = 6
def Two (p p' q q' : Int) : Prop := ((p = 96 ∧ p' = 150) ∨ (p = 150 ∧ p' = 96)) ∧ ((q = 15 ∧ q' = 34) ∨ (q = 34 ∧ q' = 15))
/-- what stands ready to be read into -/
def SpaC (M : Mem) (p' q' : Int) : Prop := M 1 8 = p' ∧ M 14 2 = q' ∧ PtrL M p' ∧ M q' 0 = q' + 2 ∧ RPt M (p' + 8 + 2) 20 (p' + 8 + 3) (p' + 8 + 1 + 2 * 20) ∧ RPt M (q' + 2) 8 (q' + 3) (q' + 1 + 2 * 8)
def ClsS (M : Mem) (p p' q q' : Int) (T : List Int) (ft fp : Int) (L : Lw) (W S : List (List Int)) (c : Int → Int) (E : List En) : Prop := Two p p' q q' ∧ ClsQ M p q L W S c ∧ PtrT M ∧ PtrD M ∧ RdP M ∧ SpaC M p' q' ∧ RPt M (p + 8 + 2) 20 (p + 8 + 3) (p + 8 + 1 + 2 * 20) ∧ RPt M (q + 2) 8 (q + 3) (q + 1 + 2 * 8) ∧ TapC M T ft fp ∧ ActC M L E
theorem RPt.fr {M M' : Mem} {a : Int} {n : Nat} {lo hi : Int} (h : RPt M a n lo hi) (ea : M' a = M a) (er : ∀ i : Int, 0 ≤ i → i < n → M' (M a i) = M (M a i)) : RPt M' a n lo hi := by
  refine ⟨fun i a b => ?_, fun i j a b d => ?_⟩
  · rw [ea, er i a b]
    exact h.1 i a b
  · rw [ea]
    exact h.2 i j a b d
theorem RPt.fr' {M M' : Mem} {a : Int} {n : Nat} {lo hi : Int} (h : RPt M a n lo hi) (ea : M' a = M a) (er : ∀ r : Int, lo ≤ r → r ≤ hi → M' r = M r) : RPt M' a n lo hi := h.fr ea fun i x y => er _ (h.1 i x y).2.2.1 (h.1 i x y).2.2.2
theorem ActC.fr {M M' : Mem} {L : Lw} {E : List En} (h : ActC M L E) (g : ∀ k : Int, 67 ≤ k → k ≤ 95 → M' k = M k) : ActC M' L E := by
  obtain ⟨a1, a2, a3, a4⟩ := h
  have hr := a4
  refine ⟨?_, by rw [g 67 (by decide) (by decide)]; exact a2, fun j hj => ?_, a4.fr' (g 71 (by decide) (by decide)) (fun r x y => g r (by omega) (by omega))⟩
  · unfold PtrA at a1 ⊢
    rw [g 67 (by decide) (by decide)]
    exact a1
  · have := a3 j hj
    unfold EnIs at this ⊢
    rw [g 68 (by decide) (by decide), g 69 (by decide) (by decide), g 70 (by decide) (by decide), g 71 (by decide) (by decide)]
    refine ⟨this.1, this.2.1, this.2.2.1, fun z => ?_⟩
    obtain ⟨c1, c2, c3, c4⟩ := hr.1 (j : Int) (by omega) (by omega)
    have := this.2.2.2 z
    exact ⟨this.1.fr (g _ (by omega) (by omega)) (g _ (by omega) (by omega)), by rw [g _ (by omega) (by omega)]; exact this.2⟩
theorem TapC.fr {M M' : Mem} {T : List Int} {ft fp : Int} (h : TapC M T ft fp) (e2 : M' 2 = M 2) (e3 : M' 3 = M 3) : TapC M' T ft fp := by
  unfold TapC at h ⊢
  rw [e2, e3]
  exact h
section ST
variable {M M' : Mem} {p p' q q' ft fp : Int} {T : List Int} {L : Lw} {W S : List (List Int)} {c : Int → Int} {E : List En}
/-- cells that stay as they are where the tape, the words that are learnt, the costs, the acts are written -/
def Kp (p k : Int) : Prop := k ≠ 2 ∧ k ≠ 3 ∧ ¬ (67 ≤ k ∧ k ≤ 95) ∧ k ≠ p + 8 ∧ ¬ (p + 10 ≤ k ∧ k ≤ p + 50) ∧ k ≠ p + 53
theorem lwN (hp : p = 96 ∨ p = 150) : ∀ k : Int, p ≤ k → k ≤ p + 53 → k ≠ p + 5 → k ≠ p + 6 → k ≠ p + 7 → k ≠ p + 9 → ¬ Scr k := by
  intro k a b c d e f
  unfold Scr
  rcases hp with rfl | rfl <;> omega
theorem spN (hq : q = 15 ∨ q = 34) : ∀ k : Int, q ≤ k → k ≤ q + 18 → k ≠ q + 1 → ¬ Scr k := by
  intro k a b c
  unfold Scr
  rcases hq with rfl | rfl <;> omega
theorem PtrL.fr' (h : PtrL M p) (e0 : M' p = M p) (e1 : M' (p + 1) = M (p + 1)) (e8 : M' (p + 8) = M (p + 8)) : PtrL M' p := by
  unfold PtrL at h ⊢
  rw [e0, e1, e8]
  exact h
theorem SpaC.fr (h : SpaC M p' q') (hp : p' = 96 ∨ p' = 150) (hq : q' = 15 ∨ q' = 34) (g : Fr M M') : SpaC M' p' q' := by
  have n1 := lwN hp
  have n2 := spN hq
  have e : ∀ k : Int, ¬ Scr k → M' k = M k := g.1
  have ep : ∀ k : Int, p' ≤ k → k ≤ p' + 53 → k ≠ p' + 5 → k ≠ p' + 6 → k ≠ p' + 7 → k ≠ p' + 9 → M' k = M k := fun k a b c d x y => e k (n1 k a b c d x y)
  have eq : ∀ k : Int, q' ≤ k → k ≤ q' + 18 → k ≠ q' + 1 → M' k = M k := fun k a b c => e k (n2 k a b c)
  have e1 : M' 1 = M 1 := e 1 (by unfold Scr; omega)
  have e14 : M' 14 = M 14 := e 14 (by unfold Scr; omega)
  clear n1 n2 hp hq g e
  obtain ⟨b1, b2, b3, b4, b5, b6⟩ := h
  refine ⟨by rw [e1]; exact b1, by rw [e14]; exact b2, b3.fr' (ep _ (by omega) (by omega) (by omega) (by omega) (by omega) (by omega)) (ep _ (by omega) (by omega) (by omega) (by omega) (by omega) (by omega)) (ep _ (by omega) (by omega) (by omega) (by omega) (by omega) (by omega)), by rw [eq _ (by omega) (by omega) (by omega)]; exact b4, b5.fr' (ep _ (by omega) (by omega) (by omega) (by omega) (by omega) (by omega)) (fun r x y => ep r (by omega) (by omega) (by omega) (by omega) (by omega) (by omega)), b6.fr' (eq _ (by omega) (by omega) (by omega)) (fun r x y => eq r (by omega) (by omega) (by omega))⟩
theorem RdP.fr (h : RdP M) (g : Fr M M') : RdP M' := by
  unfold RdP at h ⊢
  rw [(g.2.1 0 (by decide) (by decide)).1, (g.2.1 1 (by decide) (by decide)).1, (g.2.1 2 (by decide) (by decide)).1, (g.2.1 3 (by decide) (by decide)).1, g.2.2.2]
  exact h
theorem ClsS.fr (h : ClsS M p p' q q' T ft fp L W S c E) (g : Fr M M') : ClsS M' p p' q q' T ft fp L W S c E := by
  obtain ⟨a0, a1, a2, a3, a4, a5, a6, a7, a8, a9⟩ := h
  have e2 : M' 2 = M 2 := g.1 2 (by unfold Scr; omega)
  have e3 : M' 3 = M 3 := g.1 3 (by unfold Scr; omega)
  have hp : p = 96 ∨ p = 150 := by rcases a0.1 with z | z; exact Or.inl z.1; exact Or.inr z.1
  have hp' : p' = 96 ∨ p' = 150 := by rcases a0.1 with z | z; exact Or.inr z.2; exact Or.inl z.2
  have hq : q = 15 ∨ q = 34 := by rcases a0.2 with z | z; exact Or.inl z.1; exact Or.inr z.1
  have hq' : q' = 15 ∨ q' = 34 := by rcases a0.2 with z | z; exact Or.inr z.2; exact Or.inl z.2
  have n1 := lwN hp
  have n2 := spN hq
  refine ⟨a0, a1.fr g, a2.fr g, a3.fr g, a4.fr g, a5.fr hp' hq' g, ?_, ?_, a8.fr e2 e3, a9.fr (fun k x y => g.1 k (by unfold Scr; omega))⟩
  · clear hp hp' hq hq' a0
    exact a6.fr' (g.1 _ (n1 _ (by omega) (by omega) (by omega) (by omega) (by omega) (by omega))) (fun r x y => g.1 r (n1 r (by omega) (by omega) (by omega) (by omega) (by omega) (by omega)))
  · clear hp hp' hq hq' a0
    exact a7.fr' (g.1 _ (n2 _ (by omega) (by omega) (by omega))) (fun r x y => g.1 r (n2 r (by omega) (by omega) (by omega)))
theorem LawIs.kp (h : LawIs M p L) (e : ∀ k : Int, Kp p k → M' k = M k) (e8 : ∀ j : Int, j ≠ 2 → M' (p + 8) j = M (p + 8) j) : LawIs M' p L := by
  have lw := h.1
  unfold LwC at lw
  have e0 : M' p = M p := e _ (by unfold Kp; omega)
  have e1 : M' (p + 1) = M (p + 1) := e _ (by unfold Kp; omega)
  have e2 : M' (p + 2) = M (p + 2) := e _ (by unfold Kp; omega)
  have e3 : M' (p + 3) = M (p + 3) := e _ (by unfold Kp; omega)
  have e4 : M' (p + 4) = M (p + 4) := e _ (by unfold Kp; omega)
  have e51 : M' (p + 51) = M (p + 51) := e _ (by unfold Kp; omega)
  have e52 : M' (p + 52) = M (p + 52) := e _ (by unfold Kp; omega)
  unfold LawIs PtrL SndIs TldIs NumIs at h ⊢
  rw [e0, e1, e2, e3, e4, e51, e52, e8 0 (by decide), e8 1 (by decide)]
  exact h
theorem kpE (hp : p = 96 ∨ p = 150) (e : ∀ k : Int, Kp p k → M' k = M k) : ∀ k : Int, k < 67 → k ≠ 2 → k ≠ 3 → M' k = M k := fun k a b c => e k (by unfold Kp; rcases hp with rfl | rfl <;> omega)
theorem kpE' (hp : (p = 96 ∧ p' = 150) ∨ (p = 150 ∧ p' = 96)) (e : ∀ k : Int, Kp p k → M' k = M k) : ∀ k : Int, p' ≤ k → k ≤ p' + 53 → M' k = M k := fun k a b => e k (by unfold Kp; rcases hp with ⟨rfl, rfl⟩ | ⟨rfl, rfl⟩ <;> omega)
/-- a state is made anew: of the tape, the words that are learnt, the costs, the acts -/
theorem ClsS.ch {T' : List Int} {ft' fp' : Int} {W' : List (List Int)} {c' : Int → Int} {E' : List En} (h : ClsS M p p' q q' T ft fp L W S c E) (e : ∀ k : Int, Kp p k → M' k = M k) (e8 : ∀ j : Int, j ≠ 2 → M' (p + 8) j = M (p + 8) j) (hW : WrdP M' (p + 8) 20 L W') (hC : CstIs M' p c') (hT : TapC M' T' ft' fp') (hA : ActC M' L E') : ClsS M' p p' q q' T' ft' fp' L W' S c' E' := by
  obtain ⟨a0, a1, a2, a3, a4, a5, a6, a7, a8, a9⟩ := h
  obtain ⟨b1, b2, b3, b4, b5⟩ := a1
  obtain ⟨x1, x2, x3, x4, x5, x6⟩ := b1
  have hp : p = 96 ∨ p = 150 := by rcases a0.1 with z | z; exact Or.inl z.1; exact Or.inr z.1
  have hq' : q' = 15 ∨ q' = 34 := by rcases a0.2 with z | z; exact Or.inr z.2; exact Or.inl z.2
  have ee := kpE hp e
  have ep := kpE' a0.1 e
  have hL := x1.kp e e8
  have e9 : M' 9 = M 9 := ee 9 (by decide) (by decide) (by decide)
  have e1 : M' 1 = M 1 := ee 1 (by decide) (by decide) (by decide)
  have e14 : M' 14 = M 14 := ee 14 (by decide) (by decide) (by decide)
  have eqq : ∀ k : Int, q ≤ k → k ≤ q + 18 → M' k = M k := fun k a b => ee k (by rcases b2 with rfl | rfl <;> omega) (by rcases b2 with rfl | rfl <;> omega) (by rcases b2 with rfl | rfl <;> omega)
  have eqs : ∀ k : Int, q' ≤ k → k ≤ q' + 18 → M' k = M k := fun k a b => ee k (by rcases hq' with rfl | rfl <;> omega) (by rcases hq' with rfl | rfl <;> omega) (by rcases hq' with rfl | rfl <;> omega)
  clear e
  have hS : WrdIs M' q 8 L S := by
    obtain ⟨y1, y2, y3, y4, y5, y6⟩ := b3
    refine ⟨y1, by rw [eqq q (by omega) (by omega)]; exact y2, by rw [eqq q (by omega) (by omega)]; exact y3, y4, y5, fun i hi => ?_⟩
    obtain ⟨z1, z2, z3, z4⟩ := y6 i hi
    clear hp hq' b2 y6
    rw [eqq (q + 2) (by omega) (by omega)]
    exact ⟨z1.fr (eqq _ (by omega) (by omega)) (eqq _ (by omega) (by omega)), by rw [eqq _ (by omega) (by omega)]; exact z2, z3, z4⟩
  have hSp : SpaC M' p' q' := by
    obtain ⟨z1, z2, z3, z4, z5, z6⟩ := a5
    clear hp hq' b2
    exact ⟨by rw [e1]; exact z1, by rw [e14]; exact z2, z3.fr' (ep _ (by omega) (by omega)) (ep _ (by omega) (by omega)) (ep _ (by omega) (by omega)), by rw [eqs _ (by omega) (by omega)]; exact z4, z5.fr' (ep _ (by omega) (by omega)) (fun r x y => ep r (by omega) (by omega)), z6.fr' (eqs _ (by omega) (by omega)) (fun r x y => eqs r (by omega) (by omega))⟩
  have hq7 : RPt M' (q + 2) 8 (q + 3) (q + 1 + 2 * 8) := by
    clear hp hq' b2
    exact a7.fr' (eqq _ (by omega) (by omega)) (fun r x y => eqq r (by omega) (by omega))
  refine ⟨a0, ⟨⟨hL, hW.1, by rw [e9]; exact x3, by rw [e9]; exact x4, by rw [e9]; exact x5, by rw [e9]; exact x6⟩, b2, hS, hC, ?_⟩, ?_, ?_, ?_, hSp, hW.2, hq7, hT, hA⟩
  · unfold PtrC at b5 ⊢
    rw [e1, e14]
    exact b5
  · unfold PtrT at a2 ⊢
    rw [ee 53 (by decide) (by decide) (by decide), ee 54 (by decide) (by decide) (by decide), ee 58 (by decide) (by decide) (by decide)]
    exact a2
  · unfold PtrD at a3 ⊢
    rw [ee 63 (by decide) (by decide) (by decide), ee 64 (by decide) (by decide) (by decide)]
    exact a3
  · unfold RdP at a4 ⊢
    rw [ee 4 (by decide) (by decide) (by decide), ee 5 (by decide) (by decide) (by decide)]
    exact a4
/-! the model -/
abbrev Sn : Type := List (List Int) × (Int → Int)
def SnIs (M : Mem) (o : Int) (L : Lw) (s : Sn) : Prop := M 231 o = s.1.length ∧ s.1.length ≤ 20 ∧ (∀ i : Nat, i < s.1.length → M 231 (o + 1 + i) = (s.1.getD i []).length ∧ SegIs M 231 (o + 21 + 12 * i) (s.1.getD i []) ∧ WordOk L (s.1.getD i [])) ∧ ∀ i : Int, 0 ≤ i → i < 6 → M 231 (o + 261 + i) = s.2 i ∧ 0 ≤ s.2 i ∧ s.2 i ≤ 999
def sg (A : List Sn) (j : Nat) : Sn := A.getD j ([], fun _ => 0)
def TapM (M : Mem) (T : List Int) (ft fp : Int) : Prop := M 204 1 = T.length ∧ T.length ≤ 900 ∧ byt T ∧ (∀ j : Nat, j < T.length → M 205 j = bt T j) ∧ M 204 10 = ft ∧ M 204 11 = fp
def ActM (M : Mem) (L : Lw) (A : List Sn) : Prop := M 204 63 = A.length ∧ A.length ≤ 12 ∧ ∀ j : Nat, j < A.length → SnIs M (267 * j) L (sg A j)
def MdlS (M : Mem) (T : List Int) (ft fp : Int) (L : Lw) (W S : List (List Int)) (c : Int → Int) (A : List Sn) : Prop := MdlQ M L W S c ∧ MTal M L W ∧ TapM M T ft fp ∧ ActM M L A
variable {A : List Sn}
theorem TapM.fr (h : TapM M T ft fp) (e : ∀ j : Int, j < 69 → M' 204 j = M 204 j) (e5 : M' 205 = M 205) : TapM M' T ft fp := by
  unfold TapM at h ⊢
  rw [e 1 (by decide), e 10 (by decide), e 11 (by decide), e5]
  exact h
theorem ActM.fr (h : ActM M L A) (e : M' 204 63 = M 204 63) (e5 : M' 231 = M 231) : ActM M' L A := by
  unfold ActM SnIs SegIs at h ⊢
  rw [e, e5]
  exact h
theorem MdlS.frT (h : MdlS M T ft fp L W S c A) (g : FrT M M') (hm : MTal M' L W) : MdlS M' T ft fp L W S c A := by
  have f : ∀ j : Int, j < 69 → M' 204 j = M 204 j := fun j a => g.2 j (by omega) (by omega) (by omega) (by omega) (by omega)
  exact ⟨h.1.frT g, hm, h.2.2.1.fr f (g.1 205 (by decide) (by decide)), h.2.2.2.fr (f 63 (by decide)) (g.1 231 (by decide) (by decide))⟩
theorem MdlS.fr (h : MdlS M T ft fp L W S c A) (g : FrM M M') : MdlS M' T ft fp L W S c A := h.frT g.t (h.2.1.fr g)
theorem MdlS.on (h : MdlS M T ft fp L W S c A) : OnW L W ∧ OnW L S := ⟨fun i hi => (h.1.2.1.2.2 i hi).2.2, fun i hi => (h.1.2.2.1.2.2 i hi).2.2⟩
/-! fault and about -/
def aFault (ft fp what : Int) : Int := if what = 0 then ft else if what = 1 then fp else -1
theorem o2 : gO 9 2 ∧ shA SH 3 = (21, 900) := ⟨⟨by decide, by decide +kernel⟩, by decide +kernel⟩
theorem cFault {Q : Int → Mem → Prop} {what : Int} (h : ClsS M p p' q q' T ft fp L W S c E) (hi : inR what) : WI 148 [vR 1, vI what] M Q = Q (aFault ft fp what) M := by
  have p0 := h.2.1.2.2.2.2.1
  obtain ⟨-, -, -, -, -, t5, t6⟩ := h.2.2.2.2.2.2.2.2.1
  refine FN.wi (WC.fn (t_148 o1.1 ⟨hi, ?_⟩))
  unfold aFault
  rw [p0, t5, t6]
  by_cases q0 : what = 0
  · rw [if_pos q0, if_pos q0]; exact ⟨o2.1, rfl, rfl⟩
  rw [if_neg q0, if_neg q0]
  by_cases q1 : what = 1
  · rw [if_pos q1, if_pos q1]; exact ⟨o2.1, rfl, rfl⟩
  · rw [if_neg q1, if_neg q1]; exact ⟨rfl, rfl⟩
theorem mFault {Q : Int → Mem → Prop} {what : Int} (h : MdlS M T ft fp L W S c A) (hi : inR what) : WI 212 [vR 204, vI what] M Q = Q (aFault ft fp what) M := by
  obtain ⟨-, -, -, -, t5, t6⟩ := h.2.2.1
  refine FN.wi (WC.fn (t_212 o204 ⟨hi, ?_⟩))
  unfold aFault
  rw [t5, t6]
  by_cases q0 : what = 0
  · rw [if_pos q0, if_pos q0]; exact ⟨rfl, rfl⟩
  rw [if_neg q0, if_neg q0]
  by_cases q1 : what = 1
  · rw [if_pos q1, if_pos q1]; exact ⟨rfl, rfl⟩
  · rw [if_neg q1, if_neg q1]; exact ⟨rfl, rfl⟩
def aAbout (L : Lw) (W S : List (List Int)) (c : Int → Int) (na nt what : Int) : Int := if what = 0 then Ln L else if what = 1 then (Ltd L).length else if what = 2 then (Lgl L).length else if what = 3 then W.length else if what = 4 then S.length else if what = 5 then na else if what = 6 then nt else if what = 7 then nNew L W else if 10 ≤ what ∧ what ≤ 15 then c (what - 10) else -1
theorem cAbout {Q : Int → Mem → Prop} {what : Int} (h : ClsS M p p' q q' T ft fp L W S c E) (hi : inR what) : WI 174 [vR 1, vI what] M Q = Q (aAbout L W S c E.length T.length what) M := by
  obtain ⟨pc0, pc1, pc2, pc3, pc4, pc5, pc6, pc7, pc8, pc9⟩ := h.2.1.2.2.2.2
  have hQ := h.2.1
  have hL := hQ.1.1
  have t1 := h.2.2.2.2.2.2.2.2.1.2.1
  have a4 := h.2.2.2.2.2.2.2.2.2.2.1.1
  obtain ⟨h6, hn⟩ := hL.n
  have h0 : M p 0 = p + 1 := hL.2.1.1
  have h1 : M p 1 = p + 8 := hL.2.1.2.1
  have o7 := o1.2
  have ow : gO 10 (p + 8) := ⟨hQ.1.2.1.1.1, by rw [hQ.1.2.1.1.2.1]⟩
  refine FN.wi (WC.fn (t_174 o1.1 ⟨hi, ?_⟩))
  unfold aAbout
  rw [pc7, h0, h1, h6, pc3, pc9, pc6, pc0, hL.2.2.2.1.1, hL.2.2.2.1.2.2.1, hQ.1.2.1.2.2.1, hQ.2.2.1.2.2.1, a4, t1, s51 hL hQ.1.2.1]
  by_cases q0 : what = 0
  · rw [if_pos q0, if_pos q0]; exact ⟨hL.o.1, hL.o.2, rfl, rfl⟩
  rw [if_neg q0, if_neg q0]
  by_cases q1 : what = 1
  · rw [if_pos q1, if_pos q1]; exact ⟨hL.o.1, rfl, rfl⟩
  rw [if_neg q1, if_neg q1]
  by_cases q2 : what = 2
  · rw [if_pos q2, if_pos q2]; exact ⟨hL.o.1, rfl, rfl⟩
  rw [if_neg q2, if_neg q2]
  by_cases q3 : what = 3
  · rw [if_pos q3, if_pos q3]; exact ⟨hL.o.1, ow, rfl, rfl⟩
  rw [if_neg q3, if_neg q3]
  by_cases q4 : what = 4
  · rw [if_pos q4, if_pos q4]; exact ⟨o7, ⟨hQ.2.2.1.1.1, by rw [hQ.2.2.1.1.2.1]⟩, rfl, rfl⟩
  rw [if_neg q4, if_neg q4]
  by_cases q5 : what = 5
  · rw [if_pos q5, if_pos q5]; exact ⟨shA67.1, rfl, rfl⟩
  rw [if_neg q5, if_neg q5]
  by_cases q6 : what = 6
  · rw [if_pos q6, if_pos q6]; exact ⟨o2.1, rfl, rfl⟩
  rw [if_neg q6, if_neg q6]
  by_cases q7 : what = 7
  · rw [if_pos q7, if_pos q7]; exact ⟨hL.o.1.2, rfl, rfl⟩
  rw [if_neg q7, if_neg q7]
  by_cases q10 : 10 ≤ what
  · rw [if_pos q10, s41 hL (by omega)]
    refine ⟨hL.o.1.2, ?_, rfl⟩
    by_cases q15 : what ≤ 15
    · rw [if_pos (show 0 ≤ what - 10 ∧ what - 10 < 6 by omega), if_pos (show 10 ≤ what ∧ what ≤ 15 from ⟨q10, q15⟩), (hQ.2.2.2.1 (what - 10) (by omega) (by omega)).1]
    · rw [if_neg (show ¬ (0 ≤ what - 10 ∧ what - 10 < 6) by omega), if_neg (by omega)]
  · rw [if_neg q10, if_neg (by omega)]; exact ⟨rfl, rfl⟩
theorem mAbout {Q : Int → Mem → Prop} {what : Int} (h : MdlS M T ft fp L W S c A) (hi : inR what) : WI 290 [vR 204, vI what] M Q = Q (aAbout L W S c A.length T.length what) M := by
  have hQ := h.1
  have h20 := hQ.2.1.2.1
  have e61 := hQ.1.1.at (show ((61 : Int), (230 : Int)) ∈ mpT by decide)
  refine FN.wi (WC.fn (t_290 o204 ?_))
  rw [wr_id hi, m177 (by omega) (by decide) (by decide)]
  refine ⟨by have := b2i_r (decide (10 ≤ what ∧ what ≤ 15)); omega, ?_⟩
  unfold aAbout
  by_cases q1 : 10 ≤ what ∧ what ≤ 15
  · rw [decide_eq_true q1, if_neg (by decide), m218 hQ.1.1 hQ.2.2.2 (by omega) (by omega), if_neg (by omega), if_neg (by omega), if_neg (by omega), if_neg (by omega), if_neg (by omega), if_neg (by omega), if_neg (by omega), if_neg (by omega), if_pos q1]
    exact ⟨rfl, rfl⟩
  rw [decide_eq_false q1, if_pos (by decide)]
  have key : ∀ (n j : Nat), j + n = W.length → WR 290 27 [some (vR 204), some (vI what), some (vI (sN (fun i => b2i (newL L W i)) j)), some (vI j)] [] M (fun r N => r = vI (aAbout L W S c A.length T.length what) ∧ N = M) := by
    intro n
    induction n with
    | zero =>
      intro j hj
      refine t_290_27 o204 ?_
      rw [e61, hQ.2.1.1]
      refine ⟨gC z230 (by decide) (by decide), by omega, by omega, ?_⟩
      rw [if_pos (by omega)]
      refine ⟨hi, ?_⟩
      unfold aAbout
      rw [hQ.1.2.1.1, hQ.1.2.2.1.1, hQ.1.2.2.1.2.2.1, hQ.2.2.1.1, h.2.2.2.1, h.2.2.1.1, show j = W.length by omega]
      by_cases q0 : what = 0
      · rw [if_pos q0, if_pos q0]; exact ⟨rfl, rfl⟩
      rw [if_neg q0, if_neg q0]
      by_cases q1 : what = 1
      · rw [if_pos q1, if_pos q1]; exact ⟨rfl, rfl⟩
      rw [if_neg q1, if_neg q1]
      by_cases q2 : what = 2
      · rw [if_pos q2, if_pos q2]; exact ⟨rfl, rfl⟩
      rw [if_neg q2, if_neg q2]
      by_cases q3 : what = 3
      · rw [if_pos q3, if_pos q3]; exact ⟨gC z230 (by decide) (by decide), rfl, rfl⟩
      rw [if_neg q3, if_neg q3]
      by_cases q4 : what = 4
      · rw [if_pos q4, if_pos q4]; exact ⟨rfl, rfl⟩
      rw [if_neg q4, if_neg q4]
      by_cases q5 : what = 5
      · rw [if_pos q5, if_pos q5]; exact ⟨rfl, rfl⟩
      rw [if_neg q5, if_neg q5]
      by_cases q6 : what = 6
      · rw [if_pos q6, if_pos q6]; exact ⟨rfl, rfl⟩
      rw [if_neg q6, if_neg q6]
      by_cases q7 : what = 7
      · rw [if_pos q7, if_pos q7]; exact ⟨rfl, rfl⟩
      · rw [if_neg q7, if_neg q7, if_neg (by omega)]; exact ⟨rfl, rfl⟩
    | succ n ih =>
      intro j hj
      refine t_290_27 o204 ?_
      rw [e61, hQ.2.1.1, m279 hQ.1 hQ.2.1 (by omega), m178 (by have := b2i_r (newL L W j); omega)]
      refine ⟨gC z230 (by decide) (by decide), by omega, by omega, ?_⟩
      rw [if_neg (by omega)]
      have := ih (j + 1) (by omega)
      have e : sN (fun i => b2i (newL L W i)) (j + 1) = sN (fun i => b2i (newL L W i)) j + (if b2i (newL L W j) = 0 then 0 else 1) := by
        show sN (fun i => b2i (newL L W i)) j + b2i (newL L W j) = _
        cases newL L W j <;> rfl
      rw [e] at this
      exact this
  have := key W.length 0 (by omega)
  unfold aAbout at this
  exact this
end ST
