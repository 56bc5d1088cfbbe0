/-! HOW MANY CUTS ARE LEFT: the number by which the model's loop ends. -/
def prd : List Int → Nat
  | [] => 1
  | b :: bs => (b + 1).toNat * prd bs
def rkL : List Int → List Int → Nat
  | b :: bs, d :: ds => rkL bs ds + (b - d).toNat * prd bs
  | _, _ => 0
def VL : List Int → List Int → Prop
  | b :: bs, d :: ds => 0 ≤ d ∧ d ≤ b ∧ VL bs ds
  | [], [] => True
  | _, _ => False
theorem VL_len : ∀ (bs ds : List Int), VL bs ds → ds.length = bs.length
  | [], [], _ => rfl
  | _ :: bs, _ :: ds, h => by rw [List.length_cons, List.length_cons, VL_len bs ds h.2.2]
  | [], _ :: _, h => h.elim
  | _ :: _, [], h => h.elim
theorem rk_z : ∀ (bs : List Int), (∀ b ∈ bs, 0 ≤ b) → rkL bs (List.replicate bs.length 0) + 1 = prd bs ∧ VL bs (List.replicate bs.length 0)
  | [], _ => ⟨rfl, trivial⟩
  | b :: bs, h => by
    have h0 := h b List.mem_cons_self
    obtain ⟨h1, h2⟩ := rk_z bs fun x hx => h x (List.mem_cons_of_mem _ hx)
    refine ⟨?_, Int.le_refl _, h0, h2⟩
    show rkL bs (List.replicate bs.length 0) + (b - 0).toNat * prd bs + 1 = (b + 1).toNat * prd bs
    rw [show (b + 1).toNat = (b - 0).toNat + 1 by omega, Nat.add_mul, Nat.one_mul]
    omega
theorem VL_pos : ∀ (bs ds : List Int), VL bs ds → ∀ b ∈ bs, 0 ≤ b
  | [], _, _, _, hb => by cases hb
  | b :: bs, d :: ds, h, x, hx => by
    rcases List.mem_cons.mp hx with rfl | hx
    · have := h.1; have := h.2.1; omega
    · exact VL_pos bs ds h.2.2 x hx
  | _ :: _, [], h, _, _ => h.elim
theorem rk_nxt : ∀ (bs ds e : List Int), VL bs ds → nxtL bs ds = some e → rkL bs e + 1 = rkL bs ds ∧ VL bs e
  | [], _, e, _, h => by rw [nxtL] at h; cases h; intros; contradiction
  | _ :: _, [], e, v, _ => v.elim
  | b :: bs, d :: ds, e, v, h => by
    rw [nxtL] at h
    cases hn : nxtL bs ds with
    | some e' =>
      rw [hn] at h
      cases h
      obtain ⟨h1, h2⟩ := rk_nxt bs ds e' v.2.2 hn
      refine ⟨?_, v.1, v.2.1, h2⟩
      show rkL bs e' + (b - d).toNat * prd bs + 1 = rkL bs ds + (b - d).toNat * prd bs
      omega
    | none =>
      rw [hn] at h
      dsimp only at h
      split at h
      · rename_i hlt
        cases h
        have hl := VL_len bs ds v.2.2
        rw [hl]
        obtain ⟨h1, h2⟩ := rk_z bs (VL_pos bs ds v.2.2)
        have h3 := rk_none bs ds v.2.2 hn
        refine ⟨?_, by have := v.1; omega, by omega, h2⟩
        show rkL bs (List.replicate bs.length 0) + (b - (d + 1)).toNat * prd bs + 1 = rkL bs ds + (b - d).toNat * prd bs
        rw [show (b - d).toNat = (b - (d + 1)).toNat + 1 by omega, Nat.add_mul, Nat.one_mul]
        omega
      · cases h
where
  rk_none : ∀ (bs ds : List Int), VL bs ds → nxtL bs ds = none → rkL bs ds = 0
    | [], [], _, _ => rfl
    | [], _ :: _, v, _ => v.elim
    | _ :: _, [], v, _ => v.elim
    | b :: bs, d :: ds, v, h => by
      rw [nxtL] at h
      cases hn : nxtL bs ds with
      | some e' => rw [hn] at h; cases h
      | none =>
        rw [hn] at h
        dsimp only at h
        split at h
        · cases h
        · show rkL bs ds + (b - d).toNat * prd bs = 0
          rw [rk_none bs ds v.2.2 hn, show (b - d).toNat = 0 by omega, Nat.zero_mul]
def smL : List Int → Int
  | [] => 0
  | b :: bs => b + smL bs
theorem prd_le : ∀ (bs : List Int), (∀ b ∈ bs, 0 ≤ b) → 0 ≤ smL bs ∧ prd bs ≤ 2 ^ (smL bs).toNat
  | [], _ => ⟨Int.le_refl _, Nat.le_refl _⟩
  | b :: bs, h => by
    have h0 := h b List.mem_cons_self
    obtain ⟨h1, h2⟩ := prd_le bs fun x hx => h x (List.mem_cons_of_mem _ hx)
    refine ⟨by show 0 ≤ b + smL bs; omega, ?_⟩
    show (b + 1).toNat * prd bs ≤ 2 ^ (b + smL bs).toNat
    rw [show (b + smL bs).toNat = b.toNat + (smL bs).toNat by omega, Nat.pow_add, show (b + 1).toNat = b.toNat + 1 by omega]
    exact Nat.mul_le_mul Nat.lt_two_pow_self h2
theorem smL_bs {X : Ct} (h : HOk X) : smL (bsL X) ≤ 12 := by
  have hcl : cnt X = X.2.1.length := rfl
  have key : ∀ (n j : Nat), j + n = X.2.1.length - 1 → 0 < cnt X → smL ((bsL X).drop j) + hst X j ≤ 12 := by
    intro n
    induction n with
    | zero =>
      intro j hj hc
      have := hen_r h (k := (j : Int)) (by omega) (by omega)
      rw [List.drop_eq_nil_of_le (by rw [bsL_len]; omega)]
      show 0 + hst X j ≤ 12
      omega
    | succ n ih =>
      intro j hj hc
      have := ih (j + 1) (by omega) hc
      have h1 := hen_r h (k := (j : Int)) (by omega) (by omega)
      rw [drop_cons (by rw [bsL_len]; omega), bsL_gi (by omega) (by omega)]
      show beh X j + smL ((bsL X).drop (j + 1)) + hst X j ≤ 12
      unfold beh
      rw [if_pos (by omega)]
      have e : hst X ((j : Int) + 1) = hst X ((j + 1 : Nat) : Int) := rfl
      omega
  by_cases q : 0 < cnt X
  · have := key (X.2.1.length - 1) 0 (by omega) q
    rw [List.drop_zero] at this
    have h1 := hen_r h (k := ((0 : Nat) : Int)) (by omega) (by omega)
    omega
  · have : bsL X = [] := List.length_eq_zero_iff.mp (by rw [bsL_len]; omega)
    rw [this]
    decide
theorem VL_of : ∀ (bs ds : List Int), ds.length = bs.length → (∀ k : Int, 0 ≤ k → k < bs.length → 0 ≤ gi ds k ∧ gi ds k ≤ gi bs k) → VL bs ds
  | [], [], _, _ => trivial
  | [], _ :: _, h, _ => by cases h
  | _ :: _, [], h, _ => by cases h
  | b :: bs, d :: ds, h, g => by
    rw [List.length_cons, List.length_cons] at h
    have g0 := g 0 (by decide) (by rw [List.length_cons]; omega)
    rw [gi_cons0, gi_cons0] at g0
    refine ⟨g0.1, g0.2, VL_of bs ds (by omega) (fun k a b1 => ?_)⟩
    have := g (k + 1) (by omega) (by rw [List.length_cons]; omega)
    rw [gi_consS (by omega), gi_consS (by omega), Int.add_sub_cancel] at this
    exact this
theorem VL_X {X : Ct} (g : GOk X) (hg : GLen X) : VL (bsL X) (Xd X) := by
  refine VL_of _ _ (by rw [bsL_len]; exact hg) (fun k a b => ?_)
  have hcl : cnt X = X.2.1.length := rfl
  rw [bsL_len] at b
  rw [bsL_gi a (by omega)]
  exact g.1 k a (by omega)
theorem rk_X {X : Ct} (h : HOk X) : rkL (bsL X) (Z0 X) ≤ 100000 := by
  have hb : ∀ b ∈ bsL X, 0 ≤ b := by
    intro b hb
    unfold bsL at hb
    obtain ⟨k, hk, rfl⟩ := List.mem_map.mp hb
    have := List.mem_range.mp hk
    exact (beh_r h (k := (k : Int)) (by omega) (by unfold cnt; omega)).1
  have h1 := (rk_z _ hb).1
  rw [bsL_len] at h1
  have h2 := (prd_le _ hb)
  have h3 := smL_bs h
  have h4 : 2 ^ (smL (bsL X)).toNat ≤ 2 ^ 12 := Nat.pow_le_pow_right (by decide) (by omega)
  have h5 : (2 : Nat) ^ 12 = 4096 := by decide
  unfold Z0
  omega
