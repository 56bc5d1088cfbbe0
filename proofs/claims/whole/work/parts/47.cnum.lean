/-! THE CLASS MAKES ITS TABLES: the state, and the law's numbers -/
section CN
variable {M M' : Mem} {fp p : Int} {T : List Int} {t : Tk} {L : Lw} {g : Gs} {r : Rs (Tk × Gs)}
def RdC (M : Mem) (p : Int) : Prop := M 4 0 = 2 ∧ M 4 1 = 5 ∧ M 4 2 = 7 ∧ M 4 3 = 8 ∧ M 4 4 = p ∧ M 5 0 = 6
def TbC (M : Mem) (p : Int) (g : Gs) : Prop := LawIs M p g.1 ∧ WrdP M (p + 8) 20 g.1 g.2.1 ∧ CstIs M p g.2.2.1
def Fl (M : Mem) (g : Gs) : Prop := ∀ i : Int, 0 ≤ i → i < 6 → M 8 i = b2i (g.2.2.2.2 i)
/-- what a directive leaves alone -/
def FrD (p : Int) (M M' : Mem) : Prop := (∀ k : Int, k ≠ 2 → k ≠ 5 → k ≠ 6 → k ≠ 8 → ¬ (p ≤ k ∧ k ≤ p + 53) → M' k = M k) ∧ (∀ j : Int, j < 2 → M' 2 j = M 2 j) ∧ M' 5 0 = M 5 0 ∧ (∀ j : Int, j < 5 → M' p j = M p j) ∧ (∀ j : Int, j < 6 → M' (p + 1) j = M (p + 1) j) ∧ (∀ j : Int, j ≠ 2 → M' (p + 8) j = M (p + 8) j) ∧ (RPt M (p + 8 + 2) 20 (p + 8 + 3) (p + 8 + 1 + 2 * 20) → RPt M' (p + 8 + 2) 20 (p + 8 + 3) (p + 8 + 1 + 2 * 20))
theorem FrD.rf : FrD p M M := ⟨fun _ _ _ _ _ _ => rfl, fun _ _ => rfl, rfl, fun _ _ => rfl, fun _ _ => rfl, fun _ _ => rfl, id⟩
theorem FrD.tr {M1 M2 : Mem} (h : FrD p M M1) (f : FrD p M1 M2) : FrD p M M2 := ⟨fun k a b c d e => (f.1 k a b c d e).trans (h.1 k a b c d e), fun j a => (f.2.1 j a).trans (h.2.1 j a), f.2.2.1.trans h.2.2.1, fun j a => (f.2.2.2.1 j a).trans (h.2.2.2.1 j a), fun j a => (f.2.2.2.2.1 j a).trans (h.2.2.2.2.1 j a), fun j a => (f.2.2.2.2.2.1 j a).trans (h.2.2.2.2.2.1 j a), fun z => f.2.2.2.2.2.2 (h.2.2.2.2.2.2 z)⟩
theorem FrD.of (hp : 96 ≤ p) (h : ∀ k : Int, p ≤ k → k ≤ p + 53 → M' k = M k) (e : ∀ k : Int, k ≠ 2 → k ≠ 5 → k ≠ 6 → k ≠ 8 → M' k = M k) (e2 : ∀ j : Int, j < 2 → M' 2 j = M 2 j) (e5 : M' 5 0 = M 5 0) : FrD p M M' := ⟨fun k a b c d _ => e k a b c d, e2, e5, fun j _ => by rw [h p (by omega) (by omega)], fun j _ => by rw [h (p + 1) (by omega) (by omega)], fun j _ => by rw [h (p + 8) (by omega) (by omega)], fun z => z.fr' (h _ (by omega) (by omega)) (fun r a b => h r (by omega) (by omega))⟩
theorem FrR.d (hp : 96 ≤ p) (f : FrR M M') : FrD p M M' := FrD.of hp (fun k a _ => f.1 k (by omega) (by omega) (by omega)) (fun k a b c _ => f.1 k a b c) f.2.1 f.2.2
theorem RdC.fr (hp : 96 ≤ p) (h : RdC M p) (f : FrD p M M') : RdC M' p := by
  unfold RdC at h ⊢
  rw [f.1 4 (by decide) (by decide) (by decide) (by decide) (by omega), f.2.2.1]
  exact h
theorem TbC.eq (h : TbC M p g) (e : ∀ k : Int, p ≤ k → k ≤ p + 53 → M' k = M k) : TbC M' p g := ⟨h.1.eq e, h.2.1.kp (fun k a b => e k (by omega) (by omega)), fun i a b => by rw [e (p + 53) (by omega) (by omega)]; exact h.2.2 i a b⟩
/-- a directive under way: done so far, or a fault -/
def StC (M : Mem) (p : Int) (T : List Int) (fp : Int) : Rs (Tk × Gs) → Prop
  | .error e => (1 ≤ e.1 ∧ e.1 ≤ 5) ∧ ∃ t, TpR M T t e.1 e.2
  | .ok x => TpR M T x.1 0 fp ∧ TbC M p x.2 ∧ Fl M x.2 ∧ GsOk x.2
theorem TpR.fr {ft fp : Int} (h : TpR M T t ft fp) (e2 : M' 2 = M 2) (e3 : M' 3 = M 3) : TpR M' T t ft fp := by
  refine ⟨h.1.fr e2 e3, ?_, h.2.2⟩
  unfold TokC
  rw [e2]
  exact h.2.1
theorem num_j : NumIs M p L ↔ ∀ j : Nat, j < 11 → M p (7 + j) = Lz L j := by
  constructor
  · intro ⟨h0, h1, h2, h3, h4, h5, h6, h7, h8, h9, h10⟩ j hj
    have : j = 0 ∨ j = 1 ∨ j = 2 ∨ j = 3 ∨ j = 4 ∨ j = 5 ∨ j = 6 ∨ j = 7 ∨ j = 8 ∨ j = 9 ∨ j = 10 := by omega
    rcases this with rfl | rfl | rfl | rfl | rfl | rfl | rfl | rfl | rfl | rfl | rfl
    · exact h0
    · exact h1
    · exact h2
    · exact h3
    · exact h4
    · exact h5
    · exact h6
    · exact h7
    · exact h8
    · exact h9
    · exact h10
  · intro h
    exact ⟨h 0 (by decide), h 1 (by decide), h 2 (by decide), h 3 (by decide), h 4 (by decide), h 5 (by decide), h 6 (by decide), h 7 (by decide), h 8 (by decide), h 9 (by decide), h 10 (by decide)⟩
theorem LawIs.sz {i : Nat} {v : Int} (h : LawIs M p L) (hi : i < 11) (hw : Wf (setz L i v)) : LawIs (upM M p (7 + i) v) p (setz L i v) := by
  obtain ⟨a1, a2, a3, a4, a5, a6⟩ := h
  have o : ∀ k : Int, k ≠ p → upM M p (7 + i) v k = M k := fun k a => upM_o a
  have f : ∀ j : Int, j < 7 → upM M p (7 + i) v p j = M p j := fun j a => upM_f (by omega)
  refine ⟨a1, ?_, ?_, ?_, num_j.mpr fun j hj => ?_, hw⟩
  · unfold PtrL at a2 ⊢
    rw [f 0 (by decide), f 1 (by decide), f 2 (by decide), f 3 (by decide), f 4 (by decide), o (p + 1) (by omega), o (p + 8) (by omega)]
    exact a2
  · unfold SndIs at a3 ⊢
    rw [o (p + 1) (by omega), o (p + 2) (by omega), o (p + 3) (by omega), o (p + 4) (by omega)]
    exact a3
  · unfold TldIs at a4 ⊢
    rw [f 5 (by decide), f 6 (by decide), o (p + 51) (by omega), o (p + 52) (by omega)]
    exact a4
  · rw [lz_setz]
    by_cases q : j = i
    · rw [if_pos q, q, upM_s]
    · rw [if_neg q, upM_f (by omega)]
      exact num_j.mp a5 j hj
theorem FrD.sz {i : Nat} {v : Int} (hp : 96 ≤ p) : FrD p M (upM M p (7 + i) v) := by
  have o : ∀ k : Int, k ≠ p → upM M p (7 + i) v k = M k := fun k a => upM_o a
  exact ⟨fun k _ _ _ _ e => o k (by omega), fun j _ => by rw [o 2 (by omega)], by rw [o 5 (by omega)], fun j a => upM_f (by omega), fun j _ => by rw [o (p + 1) (by omega)], fun j _ => by rw [o (p + 8) (by omega)], fun z => z.fr' (o _ (by omega)) (fun r a b => o r (by omega))⟩
theorem wrdP_L {L' : Lw} {q : Int} {n : Nat} {W : List (List Int)} (h : WrdP M q n L W) (e : ∀ l ∈ W, leadKey L' l = leadKey L l) : WrdP M q n L' W := by
  obtain ⟨⟨a1, a2, a3, a4, a5, a6⟩, b⟩ := h
  refine ⟨⟨a1, a2, a3, a4, a5, fun i hi => ?_⟩, b⟩
  obtain ⟨c1, c2, c3, c4⟩ := a6 i hi
  refine ⟨c1, ?_, c3, c4⟩
  rw [c2, e]
  rw [List.getD_eq_getElem?_getD, List.getElem?_eq_getElem hi]
  exact List.getElem_mem hi
theorem lead_setz {i : Nat} {v : Int} {l : List Int} : leadKey (setz L i v) l = leadKey L l := rfl
theorem on_setz {i : Nat} {v : Int} {W : List (List Int)} (h : OnW L W) : OnW (setz L i v) W := h
theorem StC.sz {i : Nat} {v : Int} (hp : 96 ≤ p) (h : StC M p T fp (.ok (t, g))) (hi : i < 11) (hz : WfZ (setz g.1 i v)) (h8 : g.2.2.2.1 3 = false → i = 8 → v = 0) : StC (upM M p (7 + i) v) p T fp (.ok (t, setz g.1 i v, g.2)) := by
  obtain ⟨a1, ⟨b1, b2, b3⟩, a3, g1, g2, g3, g4, g5⟩ := h
  have o : ∀ k : Int, k ≠ p → upM M p (7 + i) v k = M k := fun k a => upM_o a
  have hw : Wf (setz g.1 i v) := wf_setz g1 hz
  refine ⟨a1.fr (o 2 (by omega)) (o 3 (by omega)), ⟨b1.sz hi hw, wrdP_L (b2.kp (fun k a b => o k (by omega))) (fun l _ => rfl), fun j a b => by rw [o (p + 53) (by omega)]; exact b3 j a b⟩, fun j a b => by rw [o 8 (by omega)]; exact a3 j a b, hw, g2, g3, g4, fun z => ?_⟩
  show (if 8 = i then v else Lz g.1 8) = 0
  by_cases q : 8 = i
  · rw [if_pos q]; exact h8 z q.symm
  · rw [if_neg q]; exact g5 z
theorem s76s {Q : Int → Mem → Prop} {lo hi : Int} {i : Nat} (hp : 96 ≤ p) (hS : StC M p T fp r) (hR : RdC M p) (hk : i < 11) (hlo : 0 ≤ lo ∧ lo ≤ hi) (hhi : hi ≤ 999) (hz : ∀ (L : Lw) (v : Int), WfZ L → lo ≤ v → v ≤ hi → WfZ (setz L i v)) (h8 : ∀ x, r = .ok x → x.2.2.2.2.1 3 = false → i ≠ 8) (hQ : ∀ (M1 : Mem) (v : Int), FrD p M M1 → StC (upM M1 p (7 + i) v) p T fp (thn r (bNum T i lo hi)) → Q v M1) : WI 76 [vR 4, vI lo, vI hi] M Q := by
  cases r with
  | error e =>
    obtain ⟨he, t, ht⟩ := hS
    refine s76 ht hR.1 (by omega) hlo hhi (fun M1 v t1 ft1 fp1 f1 h1 hv ha _ => hQ M1 v (f1.r.d hp) ⟨he, t1, ?_⟩)
    obtain ⟨x1, x2⟩ := ha.1 (by omega)
    rw [x1, x2] at h1
    exact h1.fr (upM_o (by omega)) (upM_o (by omega))
  | ok x =>
    obtain ⟨t, g⟩ := x
    obtain ⟨ht, hb, hf, hg⟩ := hS
    refine s76 ht hR.1 (by decide) hlo hhi (fun M1 v t1 ft1 fp1 f1 h1 hv ha hv2 => hQ M1 v (f1.r.d hp) ?_)
    obtain ⟨x1, x2⟩ := ha.2 rfl
    show StC _ p T fp (if nEr T t lo hi ≠ 0 then .error (nEr T t lo hi, t.2.1) else .ok (nx T t, setz g.1 i (nmv T t.2.1 t.2.2), g.2))
    have nr := @nEr_r T t lo hi
    by_cases q : nEr T t lo hi = 0
    · rw [if_neg (by omega)]
      obtain ⟨v1, v2⟩ := hv2 q
      rw [x1, x2, q, if_pos rfl, v2] at h1
      rw [← v1]
      refine StC.sz hp (t := nx T t) (g := g) ⟨h1, hb.eq (fun k a _ => f1.1 k (by omega)), fun j a b => by rw [f1.1 8 (by decide)]; exact hf j a b, hg⟩ hk (hz _ _ hg.1.2.2 hv.1 hv.2) (fun z z8 => absurd z8 (h8 _ rfl z))
    · rw [if_pos q]
      rw [x1, x2, if_neg q] at h1
      exact ⟨⟨by omega, nr.2⟩, t1, h1.fr (upM_o (by omega)) (upM_o (by omega))⟩
end CN
