/-! RHYME, by the model. -/
theorem z239 : shA SH 239 = (20, 12) ∧ shA SH 238 = (20, 12) ∧ shA SH 237 = (20, 4) := by decide +kernel
section RM
variable {M : Mem} {a b w : Int} {L : Lw} {W S : List (List Int)} {l : List Int} {c : Int → Int}
theorem m227' {Q : Mem → Prop} (h : MLaw M L) (hW : MLrn M L W) (hS : MSpk M L S) (hw : WdIs W S w l) (hQ : ∀ M' : Mem, (∀ k : Int, k ≠ 204 → k ≠ 232 → k ≠ 233 → k ≠ 234 → M' k = M k) → (∀ j : Int, j ≠ 69 → j ≠ 70 → M' 204 j = M 204 j) → MCutH M' L W (X0 L l) → Q M') : WV 227 [vR 204, vI w] M Q := by
  obtain ⟨hv, hwl⟩ := hw.ok hW hS
  have h12 := hv.2.1
  have hwr : inR w := by rcases hwl with q | q <;> omega
  have key : ∀ (n i : Nat) (N : Mem) (P : AV → Mem → Prop), i + n = l.length → (∀ k : Int, k ≠ 204 → k ≠ 232 → N k = M k) → (∀ j : Int, j ≠ 69 → N 204 j = M 204 j) → N 204 69 = l.length → (∀ j : Int, 0 ≤ j → j < i → N 232 j = gi l j) → (∀ (v : AV) (M' : Mem), (∀ k : Int, k ≠ 204 → k ≠ 232 → k ≠ 233 → k ≠ 234 → M' k = M k) → (∀ j : Int, j ≠ 69 → j ≠ 70 → M' 204 j = M 204 j) → MCutH M' L W (X0 L l) → P v M') → WR 227 11 [some (vR 204), some (vI w), some (vI i)] [] N P := by
    intro n
    induction n with
    | zero =>
      intro i N P hi g f e69 hk hP
      have hf : FrM M N := frmL (fun k a b _ _ => g k a b) (fun j a _ => f j a)
      refine t_227_11 o204 ?_
      rw [e69]
      refine ⟨by omega, by omega, ?_⟩
      rw [if_pos (by omega)]
      exact m228 (h.fr hf) (hW.fr hf) e69 (fun j a b => by rw [Int.zero_add]; exact hk j a (by omega)) hv.2.2 h12 (fun M' g2 f2 hM' => hP _ M' (fun k a b c d => (g2 k a c d).trans (g k a b)) (fun j a b => (f2 j b).trans (f j a)) hM')
    | succ n ih =>
      intro i N P hi g f e69 hk hP
      have hf : FrM M N := frmL (fun k a b _ _ => g k a b) (fun j a _ => f j a)
      refine t_227_11 o204 ?_
      rw [e69, m222 (h.1.fr hf) (hW.fr hf) (hS.fr hf) hw (by omega) (by omega), (h.1.fr hf).at (show ((64 : Int), (232 : Int)) ∈ mpT by decide)]
      refine ⟨by omega, by omega, ?_⟩
      rw [if_neg (by omega)]
      refine ⟨gC zC.1 (by omega) (by show _ < ((12 : Nat) : Int); omega), ih (i + 1) _ P (by omega) (fun k a b => by rw [upM_o b]; exact g k a b) (fun j a => by rw [upM_o (by decide)]; exact f j a) (by rw [upM_o (by decide)]; exact e69) (fun j a b => ?_) hP⟩
      by_cases e : j = i
      · rw [e, upM_s]
      · rw [upM_f e]
        exact hk j a (by omega)
  refine t_227 o204 ?_
  rw [m221 h.1 hW hS hw]
  exact key l.length 0 _ _ (by omega) (fun k a b => upM_o a) (fun j a => upM_f a) upM_s (fun j a b => by omega) (fun _ M' a b d => hQ M' a b d)
theorem mRhyme {Q : Int → Mem → Prop} (h : MdlQ M L W S c) (ha : inR a) (hb : inR b) (hQ : ∀ M' : Mem, FrM M M' → Q (aRhyme L W S a b) M') : WI 262 [vR 204, vI a, vI b] M Q := by
  unfold aRhyme at hQ
  refine t_262 o204 ?_
  rw [m220 h ha]
  refine ⟨by have := b2i_r (decide (0 ≤ a ∧ a < (S.length : Int))); omega, ?_⟩
  by_cases za : 0 ≤ a ∧ a < (S.length : Int)
  rotate_left
  · rw [if_neg (fun z => za z.1)] at hQ
    rw [decide_eq_false za, if_pos (by decide)]
    exact ⟨_, rfl, hQ M FrM.rf⟩
  rw [decide_eq_true za, if_neg (by decide), m220 h hb]
  refine ⟨by have := b2i_r (decide (0 ≤ b ∧ b < (S.length : Int))); omega, ?_⟩
  by_cases zb : 0 ≤ b ∧ b < (S.length : Int)
  rotate_left
  · rw [if_neg (fun z => zb z.2)] at hQ
    rw [decide_eq_false zb, if_pos (by decide)]
    exact ⟨_, rfl, hQ M FrM.rf⟩
  rw [decide_eq_true zb, if_neg (by decide)]
  rw [if_pos ⟨za, zb⟩] at hQ
  have wA : WdIs W S a (S.getD a.toNat []) := Or.inl ⟨za.1, za.2, rfl⟩
  have wB : WdIs W S b (S.getD b.toNat []) := Or.inl ⟨zb.1, zb.2, rfl⟩
  generalize S.getD a.toNat [] = A at wA hQ
  generalize S.getD b.toNat [] = B at wB hQ
  have oA := (wA.ok h.2.1 h.2.2.1).1
  have oB := (wB.ok h.2.1 h.2.2.1).1
  have oA12 := oA.2.1
  have oB12 := oB.2.1
  refine m227' h.1 h.2.1 h.2.2.1 wA (fun M1 g1 f1 hX => ?_)
  have r1 := frmL g1 f1
  have hcA := hX.2.2.2.2.2.2.1.1
  have hcA0 : 0 ≤ cnt (X0 L A) := Int.natCast_nonneg _
  rw [hX.2.2.2.1]
  refine ⟨by omega, ?_⟩
  by_cases cA : cnt (X0 L A) = 0
  · rw [if_pos cA]
    rw [if_pos (Or.inl cA)] at hQ
    exact ⟨_, rfl, hQ M1 r1⟩
  rw [if_neg cA]
  refine m238 hX ⟨rfl, rfl⟩ (X0_g L A oA.2.1) (fun M2 g2 hP => ?_)
  have r2 := r1.tr (frm35 (fun k a _ => g2 k a))
  rw [m252 hP (by show 0 < cnt (X0 L A); omega)]
  have hs := strs_r (L := L) h.1.2.2.2.2 (XP L W (X0 L A)) (by show 0 < cnt (X0 L A); omega)
  have hh := hen_r hP.1.2.2.2.2.2.2.1 hs.1 hs.2
  have e33 := (hP.1.2.2.2.2.2.2.2 _ hs.1 hs.2).1
  have eX : Xn (XP L W (X0 L A)) = A.length := rfl
  have hcx : cnt (XP L W (X0 L A)) = cnt (X0 L A) := rfl
  rw [hP.1.p.2.1, e33, hP.1.2.2.1, eX]
  refine ⟨gC zC.2.1 hs.1 (by show _ < ((12 : Nat) : Int); omega), ?_⟩
  obtain ⟨fA, efA⟩ : ∃ f, f = hst (X0 L A) (strs L (XP L W (X0 L A))) := ⟨_, rfl⟩
  have efA' : hst (XP L W (X0 L A)) (strs L (XP L W (X0 L A))) = fA := efA.symm
  rw [efA'] at hh ⊢
  have eA : endL L W A = sub A fA (A.length - fA) := by unfold endL; rw [← efA]; rfl
  have p57 : ∀ (n : Nat) (i : Int) (N : Mem), 0 ≤ i → i + n = A.length - fA → (∀ k : Int, k ≠ 239 → N k = M2 k) → (∀ j : Int, 0 ≤ j → j < i → N 239 j = gi A (fA + j)) → WR 262 57 [some (vR 204), some (vI a), some (vI b), some (vI fA), some (vI (A.length - fA)), some (vI i)] [] N (fun r M' => ∃ x, r = vI x ∧ Q x M') := by
    intro n
    induction n with
    | zero =>
      intro i N hi hn g hk
      have rN : FrM M N := r2.tr ⟨fun k a _ => g k (by omega), fun j _ _ _ _ => by rw [g 204 (by decide)]⟩
      have hN := h.fr rN
      refine t_262_57 o204 ⟨by omega, by omega, ?_⟩
      rw [if_pos (by omega)]
      refine m227' hN.1 hN.2.1 hN.2.2.1 wB (fun M3 g3 f3 hY => ?_)
      have r3 := rN.tr (frmL g3 f3)
      have hcB := hY.2.2.2.2.2.2.1.1
      have hcB0 : 0 ≤ cnt (X0 L B) := Int.natCast_nonneg _
      rw [hY.2.2.2.1]
      refine ⟨by omega, ?_⟩
      by_cases cB : cnt (X0 L B) = 0
      · rw [if_pos cB]
        rw [if_pos (Or.inr cB)] at hQ
        exact ⟨_, rfl, hQ M3 r3⟩
      rw [if_neg cB]
      rw [if_neg (by omega)] at hQ
      refine m238 hY ⟨rfl, rfl⟩ (X0_g L B oB.2.1) (fun M4 g4 hR => ?_)
      have r4 := r3.tr (frm35 (fun k a _ => g4 k a))
      rw [m252 hR (by show 0 < cnt (X0 L B); omega)]
      have ks := strs_r (L := L) h.1.2.2.2.2 (XP L W (X0 L B)) (by show 0 < cnt (X0 L B); omega)
      have kh := hen_r hR.1.2.2.2.2.2.2.1 ks.1 ks.2
      have k33 := (hR.1.2.2.2.2.2.2.2 _ ks.1 ks.2).1
      have kX : Xn (XP L W (X0 L B)) = B.length := rfl
      have kcx : cnt (XP L W (X0 L B)) = cnt (X0 L B) := rfl
      rw [hR.1.p.2.1, k33, hR.1.2.2.1, kX]
      obtain ⟨fB, efB⟩ : ∃ f, f = hst (X0 L B) (strs L (XP L W (X0 L B))) := ⟨_, rfl⟩
      have efB' : hst (XP L W (X0 L B)) (strs L (XP L W (X0 L B))) = fB := efB.symm
      rw [efB'] at kh ⊢
      have eB : endL L W B = sub B fB (B.length - fB) := by unfold endL; rw [← efB]; rfl
      have lA := sub_len (l := A) (a := fA) (n := A.length - fA) (by omega) (by omega) (by omega)
      have lB := sub_len (l := B) (a := fB) (n := B.length - fB) (by omega) (by omega) (by omega)
      have fin := hQ M4 r4
      rw [eA, eB] at fin
      refine ⟨gC zC.2.1 ks.1 (by show _ < ((12 : Nat) : Int); omega), by omega, ?_⟩
      by_cases en : (B.length : Int) - fB = A.length - fA
      · rw [if_pos en]
        have e39 : ∀ j : Int, 0 ≤ j → j < A.length - fA → M4 239 j = gi A (fA + j) := fun j a q => by
          rw [g4 239 (by decide), g3 239 (by decide) (by decide) (by decide) (by decide)]
          exact hk j a (by omega)
        have e73 : M4 204 73 = 239 := hR.1.1.1.at (by decide)
        have p130 : ∀ (m : Nat) (i : Int), 0 ≤ i → i + m = A.length - fA → (∀ j : Int, 0 ≤ j → j < i → gi B (fB + j) = gi A (fA + j)) → WR 262 130 [some (vR 204), some (vI a), some (vI b), some (vI fB), some (vI (A.length - fA)), some (vI i)] [] M4 (fun r M' => ∃ x, r = vI x ∧ Q x M') := by
          intro m
          induction m with
          | zero =>
            intro i hi hm he
            refine t_262_130 o204 ⟨by omega, by omega, ?_⟩
            rw [if_pos (by omega)]
            have eq : sub A fA (A.length - fA) = sub B fB (B.length - fB) := by
              refine gi_ext (by omega) (fun j a q => ?_)
              rw [gi_sub (by omega) a (by omega) (by omega), gi_sub (by omega) a (by omega) (by omega)]
              exact (he j a (by omega)).symm
            rw [if_pos eq] at fin
            exact ⟨_, rfl, fin⟩
          | succ m ihm =>
            intro i hi hm he
            have qA := onl_r (i := fA + i) h.1.2.2.2.2 oA.2.2 (by omega) (by omega)
            have qB := onl_r (i := fB + i) h.1.2.2.2.2 oB.2.2 (by omega) (by omega)
            have sB := hR.1.2.2.2.2.1 (fB + i) (by omega) (by show _ < Xn (XP L W (X0 L B)); omega)
            rw [Int.zero_add] at sB
            replace sB : M4 232 (fB + i) = gi B (fB + i) := sB
            refine t_262_130 o204 ⟨by omega, by omega, ?_⟩
            rw [if_neg (by omega), hR.1.p.1, e73, e39 i hi (by omega), sB]
            refine ⟨gC zC.1 (by omega) (by show _ < ((12 : Nat) : Int); omega), gC z239.1 hi (by show _ < ((12 : Nat) : Int); omega), by omega, by omega, ?_⟩
            by_cases e : gi B (fB + i) = gi A (fA + i)
            · rw [if_pos e]
              exact ihm (i + 1) (by omega) (by omega) (fun j a q => by
                by_cases e2 : j = i
                · rw [e2]; exact e
                · exact he j a (by omega))
            · rw [if_neg e]
              have ne : ¬ sub A fA (A.length - fA) = sub B fB (B.length - fB) := fun z => by
                have := congrArg (fun l => gi l i) z
                try dsimp only at this
                rw [gi_sub (by omega) hi (by omega) (by omega), gi_sub (by omega) hi (by omega) (by omega)] at this
                exact e this.symm
              rw [if_neg ne] at fin
              exact ⟨_, rfl, fin⟩
        exact p130 _ 0 (by omega) (show 0 + ((A.length - fA).toNat : Int) = _ by omega) (fun j a q => by omega)
      · rw [if_neg en]
        have ne : ¬ sub A fA (A.length - fA) = sub B fB (B.length - fB) := fun z => by
          have := congrArg List.length z
          omega
        rw [if_neg ne] at fin
        exact ⟨_, rfl, fin⟩
    | succ n ih =>
      intro i N hi hn g hk
      have sA := hP.1.2.2.2.2.1 (fA + i) (by omega) (by show _ < Xn (XP L W (X0 L A)); omega)
      rw [Int.zero_add] at sA
      replace sA : M2 232 (fA + i) = gi A (fA + i) := sA
      have e64 : N 204 64 = 232 := by rw [g 204 (by decide)]; exact hP.1.p.1
      have e73 : N 204 73 = 239 := by rw [g 204 (by decide)]; exact hP.1.1.1.at (by decide)
      refine t_262_57 o204 ⟨by omega, by omega, ?_⟩
      rw [if_neg (by omega), e64, e73, g 232 (by decide), sA]
      refine ⟨gC zC.1 (by omega) (by show _ < ((12 : Nat) : Int); omega), gC z239.1 hi (by show _ < ((12 : Nat) : Int); omega), ih (i + 1) _ (by omega) (by omega) (fun k a => by rw [upM_o a]; exact g k a) (fun j a q => ?_)⟩
      by_cases e : j = i
      · rw [e, upM_s]
      · rw [upM_f e]
        exact hk j a (by omega)
  exact p57 _ 0 M2 (by omega) (show 0 + ((A.length - fA).toNat : Int) = _ by omega) (fun _ _ => rfl) (fun j a q => by omega)
end RM
