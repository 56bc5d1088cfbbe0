/-! A JOINED SYLLABLE, by the model. -/
def tellJ (L : Lw) (W : List (List Int)) (c : Int → Int) (X : Ct) (k what : Int) : Int := if what = 7 then b2i (isChg X k) else tellS L W c X k what
theorem XJ_g {L : Lw} {W S : List (List Int)} {k : Int} (hw : Wf L) (hS : ∀ i : Nat, i < S.length → WordOk L (S.getD i [])) (h0 : 0 ≤ k) (h1 : k < S.length) : GOk (XJ L W S k) := by
  have at' : ∀ i : Int, 0 ≤ i → i < S.length → WordOk L (S.getD i.toNat []) := fun i a b => hS i.toNat (by omega)
  have ok := at' k h0 h1
  have hA12 := ok.2.1
  have o2 : overAt L W S (k + 1) = if k + 1 < S.length then over L W (S.getD k.toNat []) (S.getD (k + 1).toNat []) else 0 := by
    unfold overAt
    by_cases z : k + 1 < S.length
    · rw [if_pos ⟨by omega, z⟩, if_pos z, show k + 1 - 1 = k by omega]
    · rw [if_neg (by omega), if_neg z]
  have r2 := over_r (L := L) (W := W) (a := S.getD k.toNat []) (b := S.getD (k + 1).toNat []) hw hA12
  have hG := XP_g (L := L) (W := W) (X0_h L _ hA12) (X0_g L _ hA12)
  have went : 0 ≤ overAt L W S (k + 1) ∧ (0 < cnt (X0 L (S.getD k.toNat [])) → overAt L W S (k + 1) ≤ beh (X0 L (S.getD k.toNat [])) (cnt (X0 L (S.getD k.toNat [])) - 1)) := by
    rw [o2]
    by_cases z : k + 1 < S.length
    · rw [if_pos z]
      exact ⟨r2.1, r2.2.2.2.1⟩
    · rw [if_neg z]
      exact ⟨by omega, fun y => (beh_r (X0_h L _ hA12) (by omega) (by omega)).1⟩
  by_cases z : 0 < k
  · have eA : aheadW S k = S.getD (k - 1).toNat [] := by unfold aheadW; rw [if_pos z]
    have o1 : overAt L W S k = over L W (S.getD (k - 1).toNat []) (S.getD k.toNat []) := by unfold overAt; rw [if_pos ⟨z, h1⟩]
    have okB := at' (k - 1) (by omega) (by omega)
    have hB12 := okB.2.1
    have r1 := over_r (L := L) (W := W) (a := S.getD (k - 1).toNat []) (b := S.getD k.toNat []) hw hB12
    refine ⟨hG.1, ?_, ?_, went.1, went.2, ?_, fun y _ => ?_, ?_, ?_⟩
    · show 0 ≤ overAt L W S k; rw [o1]; exact r1.1
    · show overAt L W S k ≤ 4; rw [o1]; exact r1.2.1
    · show overAt L W S k ≤ (aheadW S k).length; rw [o1, eA]; exact r1.2.2.1
    · replace y : 0 < overAt L W S k := y
      rw [o1] at y
      have hp := r1.2.2.2.2 y
      exact ((lay_hd (L := L) ok.1).1 hp).2
    · show dg (aheadW S k); rw [eA]; exact fun s hs => by have := okB.2.2 s hs; have := hw.1.1; omega
    · show (aheadW S k).length ≤ 12; rw [eA]; exact hB12
  · have o1 : overAt L W S k = 0 := by unfold overAt; rw [if_neg (by omega)]
    have eA : aheadW S k = [] := by unfold aheadW; rw [if_neg z]
    refine ⟨hG.1, ?_, ?_, went.1, went.2, ?_, fun y _ => ?_, ?_, ?_⟩
    · show 0 ≤ overAt L W S k; omega
    · show overAt L W S k ≤ 4; omega
    · show overAt L W S k ≤ (aheadW S k).length; omega
    · replace y : 0 < overAt L W S k := y
      omega
    · show dg (aheadW S k); rw [eA]; intro s hs; cases hs
    · show (aheadW S k).length ≤ 12; rw [eA]; decide
section JM
variable {M : Mem} {k w cm wn what : Int} {L : Lw} {W S : List (List Int)} {X : Ct} {A : List Int} {c : Int → Int}
theorem MCut.o {N : Mem} (h : MCut M L W X) (g : ∀ j : Int, j ≠ 237 → j ≠ 238 → j ≠ 239 → N j = M j) : FrM M N ∧ MCut N L W X := by
  have f : FrM M N := ⟨fun j a b => g j (by omega) (by omega) (by omega), fun j _ _ _ _ => by rw [g 204 (by decide) (by decide) (by decide)]⟩
  have e : ∀ j : Int, j < 237 → N j = M j := fun j a => g j (by omega) (by omega) (by omega)
  obtain ⟨⟨a1, a2, a3, a4, a5, a6, a7, a8⟩, b1, b2⟩ := h
  refine ⟨f, ⟨a1.fr f, a2.fr f, by rw [e 204 (by decide)]; exact a3, by rw [e 204 (by decide)]; exact a4, ?_, a6, a7, ?_⟩, ?_, b2⟩
  · unfold SegIs at a5 ⊢; rw [e 232 (by decide)]; exact a5
  · rw [e 233 (by decide), e 234 (by decide)]; exact a8
  · rw [e 235 (by decide)]; exact b1
theorem m259 {Q : Int → Mem → Prop} (h : MCut M L W X) (hS : MSpk M L S) (hC : MCost M c) (hG : GOk (wJ X cm wn A)) (hA : 0 < cm → 1 ≤ w ∧ w ≤ S.length ∧ A = S.getD (w - 1).toNat []) (h0 : 0 ≤ k) (h1 : k < cnt X) (hw0 : 0 ≤ what) (hw7 : what ≤ 7) (hQ : ∀ M' : Mem, (∀ j : Int, j ≠ 238 → M' j = M j) → Q (tellJ L W c (wJ X cm wn A) k what) M') : WI 259 [vR 204, vI w, vI k, vI what, vI cm, vI wn] M Q := by
  have hH := h.1.2.2.2.2.2.2.1
  have hHY : HOk (wJ X cm wn A) := hH
  have hwf := h.1.1.2.2.2.2
  have hc12 := hH.1
  have hsz2 := (hH.2.2 k h0 h1).2.1
  have hh := hen_r hH h0 h1
  have hb := beh_r hH h0 h1
  have hcl := cls_r hH h.2.2.1 h0 h1
  have hdY := csz_r hHY hG h0 h1
  have hoY := ofr_r hHY hG h0 h1
  have hxc := h.2.2.2.1
  have hxw := h.2.2.2.2
  have cm0 : 0 ≤ cm := hG.2.1
  have cm4 : cm ≤ 4 := hG.2.2.1
  have wn0 : 0 ≤ wn := hG.2.2.2.1
  have wn1 : wn ≤ beh X (cnt X - 1) := hG.2.2.2.2.1 (by show 0 < cnt X; omega)
  have hb2 := beh_r hH (k := cnt X - 1) (by omega) (by omega)
  have hwr := wgt_r hwf hHY hG h0 h1
  obtain ⟨-, -, -, -, -, -, -, w0, w1, w2, w3⟩ := h.1.1.2.2.2.1
  have e34 := (h.1.2.2.2.2.2.2.2 k h0 h1).2
  obtain ⟨e64, e65, e66, e67, e68, e55, e61⟩ := h.1.p
  have hz6 := hwf.2.2.2.2.2.2.2.2.1
  have eo1 : k = 0 → osz X k + cm = osz (wJ X cm wn A) k := fun a => by
    unfold osz ofr
    rw [if_pos a, if_pos a, hxc]
    show hst X k - -0 + cm = hst X k - -cm
    omega
  have eo2 : ¬ k = 0 → osz X k + 0 = osz (wJ X cm wn A) k := fun a => by
    unfold osz ofr
    rw [if_neg a, if_neg a, Int.add_zero]
    rfl
  have ec1 : k = cnt X - 1 → csz X k - wn = csz (wJ X cm wn A) k := fun a => by
    unfold csz
    rw [hxw]
    show cls X k - (if k + 1 = cnt X then 0 else 0) - wn = cls X k - (if k + 1 = cnt X then wn else 0)
    rw [if_pos (by omega), if_pos (by omega)]
    omega
  have ec2 : ¬ k = cnt X - 1 → csz X k - 0 = csz (wJ X cm wn A) k := fun a => by
    unfold csz
    show cls X k - (if k + 1 = cnt X then Xw X else 0) - 0 = cls X k - (if k + 1 = cnt X then wn else 0)
    rw [if_neg (by omega), if_neg (by omega)]
    omega
  have eW : M 225 (hsz X k - 1) + Lz L 5 * csz (wJ X cm wn A) k = wgt L (wJ X cm wn A) k := by
    unfold wgt
    show _ = (if hsz X k = 2 then Lz L 4 else Lz L 3) + csz (wJ X cm wn A) k * Lz L 5
    rcases hsz2 with q | q
    · rw [q, if_neg (by decide), show (1 : Int) - 1 = 0 from rfl, w0, Int.mul_comm]
    · rw [q, if_pos rfl, show (2 : Int) - 1 = 1 from rfl, w1, Int.mul_comm]
  have fin : ∀ (v : Int) (N : Mem), (∀ j : Int, j ≠ 238 → N j = M j) → v = tellJ L W c (wJ X cm wn A) k what → ∃ x, vI v = vI x ∧ Q x N := fun v N g e => ⟨_, rfl, by rw [e]; exact hQ N g⟩
  have rf : ∀ j : Int, j ≠ 238 → M j = M j := fun _ _ => rfl
  have r192 : isChg (wJ X cm wn A) k = true → what = 7 → WR 259 192 [some (vR 204), some (vI w), some (vI k), some (vI what), some (vI cm), some (vI wn), some (vI (osz (wJ X cm wn A) k)), some (vI (csz (wJ X cm wn A) k)), some (vI (wgt L (wJ X cm wn A) k)), none, none, none] [] M (fun r M' => ∃ x, r = vI x ∧ Q x M') := fun a b => t_259_192 o204 (by
    rw [m178 (by decide), if_neg (by decide)]
    exact fin _ M rf (by unfold tellJ; rw [if_pos b, a]; rfl))
  have r196 : isChg (wJ X cm wn A) k = false → what = 7 → WR 259 196 [some (vR 204), some (vI w), some (vI k), some (vI what), some (vI cm), some (vI wn), some (vI (osz (wJ X cm wn A) k)), some (vI (csz (wJ X cm wn A) k)), some (vI (wgt L (wJ X cm wn A) k)), none, none, none] [] M (fun r M' => ∃ x, r = vI x ∧ Q x M') := fun a b => t_259_196 o204 (by
    rw [m178 (by decide), if_pos rfl]
    exact fin _ M rf (by unfold tellJ; rw [if_pos b, a]; rfl))
  have ei : isChg (wJ X cm wn A) k = decide ((k = 0 ∧ 0 < cm) ∨ (k + 1 = cnt X ∧ 0 < wn)) := rfl
  have r177 : ¬ (k = 0 ∧ 0 < cm) → what = 7 → WR 259 177 [some (vR 204), some (vI w), some (vI k), some (vI what), some (vI cm), some (vI wn), some (vI (osz (wJ X cm wn A) k)), some (vI (csz (wJ X cm wn A) k)), some (vI (wgt L (wJ X cm wn A) k)), none, none, none] [] M (fun r M' => ∃ x, r = vI x ∧ Q x M') := fun a b => t_259_177 o204 (by
    rw [h.1.2.2.2.1]
    refine ⟨by omega, by omega, ?_⟩
    by_cases q : k = cnt X - 1
    · rw [if_pos q]
      refine ⟨by omega, ?_⟩
      by_cases q2 : wn ≤ 0
      · rw [if_pos q2]
        exact r196 (by rw [ei, decide_eq_false (by omega)]) b
      · rw [if_neg q2]
        exact r192 (by rw [ei, decide_eq_true (by omega)]) b
    · rw [if_neg q]
      exact r196 (by rw [ei, decide_eq_false (by omega)]) b)
  have hck := ckl_ok hHY hG (onl_dg hwf h.1.2.2.2.2.2.1) h0 h1
  have hok := okl_ok hHY hG (onl_dg hwf h.1.2.2.2.2.2.1) h0 h1
  have hkr := kind_r L W (okl (wJ X cm wn A) k)
  have mCC' : ∀ (N : Mem), MCut N L W X → ∀ P : Int → Mem → Prop, WI 236 [vR 204, vR 232, vI (hen X k), vI (csz (wJ X cm wn A) k)] N P = P (b2i (closes L (ckl (wJ X cm wn A) k))) N := by
    intro N hN P
    have e : ckl (wJ X cm wn A) k = sub (Xl X) (hen X k) (csz (wJ X cm wn A) k) := rfl
    rw [e] at hck ⊢
    have hcY : csz (wJ X cm wn A) k ≤ cls X k := hdY.2
    rw [show vI (csz (wJ X cm wn A) k) = vI ((sub (Xl X) (hen X k) (csz (wJ X cm wn A) k)).length : Int) by rw [hck.2.2]]
    refine m236 hN.1.1 ⟨by rw [zC.1], by omega, ?_⟩ ?_ (sub_onl hN.1.2.2.2.2.2.1) hck.2.1 (by omega)
    · rw [zC.1]; show _ ≤ ((12 : Nat) : Int); omega
    · have := hN.1.2.2.2.2.1.sub (b := hen X k) (n := csz (wJ X cm wn A) k) (by omega) (by omega) (by show _ ≤ Xn X; omega)
      rw [Int.zero_add] at this
      exact this
  have cstE : ∀ t : Int, t = (if 0 < k ∧ hvy L (wJ X cm wn A) (k - 1) = true ∧ hvy L (wJ X cm wn A) k = true then c 5 else 0) → cstBy c (osz (wJ X cm wn A) k) (kind L W (okl (wJ X cm wn A) k)) (csz (wJ X cm wn A) k) (b2i (closes L (ckl (wJ X cm wn A) k))) + t = cst L W c (wJ X cm wn A) k := by
    intro t ht
    rw [cst_eq hok.2.2, ht]
    rfl
  have ozr : inR (osz (wJ X cm wn A) k) := by
    rcases hoY with q | q
    · have e1 := q.2.2.2
      have e2 : Xc (wJ X cm wn A) = cm := rfl
      omega
    · have e1 : osz (wJ X cm wn A) k = hst X k - ofr (wJ X cm wn A) k := rfl
      have e2 : hst (wJ X cm wn A) k = hst X k := rfl
      omega
  have r325 : ∀ (N : Mem) (l10 l11 : Option AV), (∀ j : Int, j ≠ 238 → N j = M j) → what = 6 → (0 : Int) = (if 0 < k ∧ hvy L (wJ X cm wn A) (k - 1) = true ∧ hvy L (wJ X cm wn A) k = true then c 5 else 0) → WR 259 325 [some (vR 204), some (vI w), some (vI k), some (vI what), some (vI cm), some (vI wn), some (vI (osz (wJ X cm wn A) k)), some (vI (csz (wJ X cm wn A) k)), some (vI (wgt L (wJ X cm wn A) k)), some (vI (kind L W (okl (wJ X cm wn A) k))), l10, l11] [] N (fun r M' => ∃ x, r = vI x ∧ Q x M') := by
    intro N l10 l11 g b t
    obtain ⟨f, hN⟩ := h.o (N := N) (fun j _ a _ => g j a)
    refine t_259_325 o204 ?_
    rw [m229 hN.1 h0 h1, hN.1.p.1, mCC' N hN, m244 hN.1.1.1 (hC.fr f) ozr (by omega) (by have := b2i_r (closes L (ckl (wJ X cm wn A) k)); omega), cstE 0 t]
    exact fin _ N g (by rw [b]; rfl)
  have r296 : ∀ (N : Mem) (l10 l11 : Option AV), (∀ j : Int, j ≠ 238 → N j = M j) → what = 6 → WR 259 296 [some (vR 204), some (vI w), some (vI k), some (vI what), some (vI cm), some (vI wn), some (vI (osz (wJ X cm wn A) k)), some (vI (csz (wJ X cm wn A) k)), some (vI (wgt L (wJ X cm wn A) k)), some (vI (kind L W (okl (wJ X cm wn A) k))), l10, l11] [] N (fun r M' => ∃ x, r = vI x ∧ Q x M') := by
    intro N l10 l11 g b
    obtain ⟨f, hN⟩ := h.o (N := N) (fun j _ a _ => g j a)
    have n3 : N 225 3 = Lz L 6 := hN.1.1.2.2.2.1.2.2.2.2.2.2.2.2.2.2
    refine t_259_296 o204 ⟨by omega, ?_⟩
    by_cases q : k ≤ 0
    · rw [if_pos q]
      exact r325 N l10 l11 g b (by rw [if_neg (by omega)])
    · rw [if_neg q, m243 hN (by omega) (by omega)]
      have ehv : hvy L X (k - 1) = hvy L (wJ X cm wn A) (k - 1) := by
        have e : csz X (k - 1) = csz (wJ X cm wn A) (k - 1) := by
          unfold csz
          show cls X (k - 1) - (if k - 1 + 1 = cnt X then Xw X else 0) = cls X (k - 1) - (if k - 1 + 1 = cnt X then wn else 0)
          rw [if_neg (by omega), if_neg (by omega)]
        unfold hvy wgt
        rw [e]
        rfl
      rw [ehv]
      refine ⟨by have := b2i_r (hvy L (wJ X cm wn A) (k - 1)); omega, ?_⟩
      cases hv : hvy L (wJ X cm wn A) (k - 1)
      · rw [if_pos (by decide)]
        exact r325 N l10 l11 g b (by rw [hv, if_neg (fun z => absurd z.2.1 (by decide))])
      · rw [if_neg (by decide), hN.1.p.2.2.2.2.2.1, n3]
        refine ⟨gC zC.2.2.2.2.2 (by decide) (by decide), by omega, by omega, ?_⟩
        by_cases q2 : wgt L (wJ X cm wn A) k < Lz L 6
        · rw [if_pos q2]
          exact r325 N l10 l11 g b (by rw [if_neg (fun z => by have := z.2.2; unfold hvy at this; rw [decide_eq_true_eq] at this; omega)])
        · rw [if_neg q2, m229 hN.1 h0 h1, hN.1.p.1, mCC' N hN, m244 hN.1.1.1 (hC.fr f) ozr (by omega) (by have := b2i_r (closes L (ckl (wJ X cm wn A) k)); omega), m218 hN.1.1.1 (hC.fr f) (by decide) (by decide), cstE (c 5) (by rw [hv, if_pos ⟨by omega, rfl, by unfold hvy; exact decide_eq_true (by omega)⟩])]
          exact fin _ N g (by rw [b]; rfl)
  have r243 : what = 6 → k = 0 → 0 < cm → ∀ (n : Nat) (i x9 : Int) (N : Mem), 0 ≤ i → i + n = cm → (∀ j : Int, j ≠ 238 → N j = M j) → (∀ j : Int, 0 ≤ j → j < i → N 238 j = gi A (A.length - cm + j)) → WR 259 243 [some (vR 204), some (vI w), some (vI k), some (vI what), some (vI cm), some (vI wn), some (vI (osz (wJ X cm wn A) k)), some (vI (csz (wJ X cm wn A) k)), some (vI (wgt L (wJ X cm wn A) k)), some (vI x9), some (vI A.length), some (vI i)] [] N (fun r M' => ∃ x, r = vI x ∧ Q x M') := by
    intro b ek hp
    obtain ⟨wa, wb, eA⟩ := hA hp
    have hlA : cm ≤ A.length := hG.2.2.2.2.2.1
    have hA12 : A.length ≤ 12 := hG.2.2.2.2.2.2.2.2
    have s8 := hS.2.1
    have sA := hS.2.2 (w - 1).toNat (by omega)
    rw [← eA] at sA
    have ew : ((w - 1).toNat : Int) = w - 1 := by omega
    rw [ew] at sA
    have z226 : shA SH 226 = (20, 96) := by decide +kernel
    intro n
    induction n with
    | zero =>
      intro i x9 N hi hn g hk
      obtain ⟨f, hN⟩ := h.o (N := N) (fun j _ a _ => g j a)
      have e72 : N 204 72 = 238 := hN.1.1.1.at (by decide)
      have hl := sub_len (l := A) (a := A.length - cm) (n := cm) (by omega) (by omega) (by omega)
      refine t_259_243 o204 ⟨by omega, by omega, ?_⟩
      rw [if_pos (by omega), e72]
      have hcall : ∀ P2 : Int → Mem → Prop, WI 235 [vR 204, vR 238, vI 0, vI cm] N P2 = P2 (kind L W (okl (wJ X cm wn A) k)) N := by
        intro P2
        have eok : okl (wJ X cm wn A) k = sub A (A.length - cm) cm := by
          unfold okl
          exact if_pos ⟨ek, hp⟩
        have := m235 (Q := P2) hN.1.1 hN.1.2.1 (a := 238) (o := 0) (l := sub A (A.length - cm) cm) ⟨by rw [z239.2.1], by decide, by rw [z239.2.1, hl]; show 0 + cm ≤ ((12 : Nat) : Int); omega⟩ (fun j a q => by rw [Int.zero_add, gi_sub (by omega) a (by omega) (by omega)]; exact hk j a (by omega)) (sub_onl sA.2.2.2.2) (by omega) (by decide)
        rw [hl] at this
        rw [eok]
        exact this
      rw [hcall]
      exact r296 N _ _ g b
    | succ n ih =>
      intro i x9 N hi hn g hk
      obtain ⟨f, hN⟩ := h.o (N := N) (fun j _ a _ => g j a)
      have e72 : N 204 72 = 238 := hN.1.1.1.at (by decide)
      have e57 : N 204 57 = 226 := hN.1.1.1.at (by decide)
      have sg := sA.2.1 (A.length - cm + i) (by omega) (by omega)
      refine t_259_243 o204 ⟨by omega, by omega, ?_⟩
      rw [if_neg (by omega), e72, e57, g 226 (by decide), show 12 * (w - 1) + (A.length : Int) - cm + i = 12 * (w - 1) + (A.length - cm + i) by omega, sg]
      refine ⟨gC z226 (by omega) (by show _ < ((96 : Nat) : Int); omega), gC z239.2.1 hi (by show _ < ((12 : Nat) : Int); omega), ih (i + 1) x9 _ (by omega) (by omega) (fun j a => by rw [upM_o a]; exact g j a) (fun j a q => ?_)⟩
      by_cases e : j = i
      · rw [e, upM_s]
      · rw [upM_f e]
        exact hk j a (by omega)
  refine t_259 o204 ?_
  rw [m240 h h0 h1]
  refine ⟨by omega, ?_⟩
  by_cases a : k = 0 <;> by_cases b : k = cnt X - 1
  all_goals first
    | rw [if_pos a]
    | rw [if_neg a]
  all_goals rw [m241 h h0 h1, h.1.2.2.2.1]
  all_goals refine ⟨by omega, ?_⟩
  all_goals first
    | rw [if_pos b]
    | rw [if_neg b]
  all_goals rw [e66, e55, e34, w2]
  all_goals first
    | rw [eo1 a]
    | rw [eo2 a]
  all_goals first
    | rw [ec1 b]
    | rw [ec2 b]
  all_goals rw [eW]
  all_goals refine ⟨gC zC.2.2.1 (by omega) (by show _ < ((12 : Nat) : Int); omega), gC zC.2.2.2.2.2 (by omega) (by show _ < ((4 : Nat) : Int); omega), gC zC.2.2.2.2.2 (by omega) (by show _ < ((4 : Nat) : Int); omega), by omega, ?_⟩
  all_goals
    by_cases c0 : what = 0
    · rw [if_pos c0]
      by_cases a2 : k = 0
      · rw [if_pos a2]
        exact fin _ M rf (by rw [c0]; show _ = ofr (wJ X cm wn A) k; unfold ofr; rw [if_pos a2]; rfl)
      · rw [if_neg a2, m239 h h0 h1]
        exact fin _ M rf (by rw [c0]; show _ = ofr (wJ X cm wn A) k; unfold ofr; rw [if_neg a2, if_neg a2]; rfl)
    rw [if_neg c0]
    by_cases c1 : what = 1
    · rw [if_pos c1]
      exact fin _ M rf (by rw [c1]; rfl)
    rw [if_neg c1]
    by_cases c2 : what = 2
    · rw [if_pos c2]
      exact ⟨gC zC.2.2.1 (by omega) (by show _ < ((12 : Nat) : Int); omega), fin _ M rf (by rw [c2]; rfl)⟩
    rw [if_neg c2]
    by_cases c3 : what = 3
    · rw [if_pos c3]
      exact fin _ M rf (by rw [c3]; rfl)
    rw [if_neg c3]
    by_cases c4 : what = 4
    · rw [if_pos c4]
      exact fin _ M rf (by rw [c4]; rfl)
    rw [if_neg c4]
    by_cases c5 : what = 5
    · rw [if_pos c5, w3]
      refine ⟨gC zC.2.2.2.2.2 (by omega) (by show _ < ((4 : Nat) : Int); omega), by omega, by omega, ?_⟩
      by_cases q : wgt L (wJ X cm wn A) k < Lz L 6
      · rw [if_pos q, m178 (by decide), if_pos rfl]
        exact fin _ M rf (by rw [c5]; show _ = b2i (hvy L (wJ X cm wn A) k); unfold hvy; rw [decide_eq_false (by omega)]; rfl)
      · rw [if_neg q, m178 (by decide), if_neg (by decide)]
        exact fin _ M rf (by rw [c5]; show _ = b2i (hvy L (wJ X cm wn A) k); unfold hvy; rw [decide_eq_true (by omega)]; rfl)
    rw [if_neg c5]
    by_cases c7 : what = 7
    · rw [if_pos c7]
      by_cases a2 : k = 0
      · rw [if_pos a2]
        refine ⟨by omega, ?_⟩
        by_cases q : 0 < cm
        · rw [if_pos q]
          exact r192 (by rw [ei, decide_eq_true (Or.inl ⟨a2, q⟩)]) c7
        · rw [if_neg q]
          exact r177 (by omega) c7
      · rw [if_neg a2]
        exact r177 (by omega) c7
    rw [if_neg c7]
    have c6 : what = 6 := by omega
    rw [m239 h h0 h1, m240 h h0 h1, e64, mCK h h0 h1]
    have eok : ¬ (k = 0 ∧ 0 < cm) → okl X k = okl (wJ X cm wn A) k := fun z => by
      rw [okl_0 hxc]
      unfold okl
      have z2 : ¬ (k = 0 ∧ 0 < Xc (wJ X cm wn A)) := z
      rw [if_neg z2]
      have eo : ofr X k = ofr (wJ X cm wn A) k := by
        unfold ofr
        by_cases a2 : k = 0
        · rw [if_pos a2, if_pos a2, hxc]
          show -0 = -cm
          omega
        · rw [if_neg a2, if_neg a2]
          rfl
      unfold osz
      rw [eo]
      rfl
    by_cases a2 : k = 0
    · rw [if_pos a2]
      refine ⟨by omega, ?_⟩
      by_cases q : cm ≤ 0
      · rw [if_pos q, eok (by omega)]
        exact r296 M _ _ rf c6
      · rw [if_neg q]
        obtain ⟨wa, wb, eA⟩ := hA (by omega)
        have s8 := hS.2.1
        have sA := hS.2.2 (w - 1).toNat (by omega)
        rw [← eA, show ((w - 1).toNat : Int) = w - 1 by omega] at sA
        have e58 : M 204 58 = 227 := h.1.1.1.at (by decide)
        have z227 : shA SH 227 = (20, 8) := by decide +kernel
        rw [e58, sA.1]
        exact ⟨gC z227 (by omega) (by show _ < ((8 : Nat) : Int); omega), r243 c6 a2 (by omega) cm.toNat 0 _ M (by omega) (by omega) rf (fun j p q => by omega)⟩
    · rw [if_neg a2, eok (by omega)]
      exact r296 M _ _ rf c6
end JM
