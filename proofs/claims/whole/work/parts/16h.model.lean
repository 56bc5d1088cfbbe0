/-! THE MODEL LOOKS AT A WORD. -/
/-- word w is l: one that is said, or one that is learnt -/
def WdIs (W S : List (List Int)) (w : Int) (l : List Int) : Prop := (0 ≤ w ∧ w < S.length ∧ l = S.getD w.toNat []) ∨ (100 ≤ w ∧ w < 100 + W.length ∧ l = W.getD (w - 100).toNat [])
section ML
variable {M : Mem} {k w : Int} {L : Lw} {W S : List (List Int)} {l : List Int}
theorem z226 : shA SH 226 = (20, 96) ∧ shA SH 227 = (20, 8) := by decide +kernel
theorem WdIs.ok (h : WdIs W S w l) (hW : MLrn M L W) (hS : MSpk M L S) : WordOk L l ∧ ((w < 100 ∧ 0 ≤ w ∧ w < 8 ∧ M 227 w = l.length ∧ SegIs M 226 (12 * w) l) ∨ (100 ≤ w ∧ w < 120 ∧ M 230 (1 + (w - 100)) = l.length ∧ SegIs M 230 (21 + 12 * (w - 100)) l)) := by
  rcases h with ⟨a, b, e⟩ | ⟨a, b, e⟩
  · obtain ⟨n, rfl⟩ := Int.eq_ofNat_of_zero_le a
    have h8 := hS.2.1
    obtain ⟨q1, q2, q3⟩ := hS.2.2 n (by omega)
    rw [Int.toNat_natCast] at e
    subst e
    exact ⟨q3, Or.inl ⟨by omega, a, by omega, q1, q2⟩⟩
  · obtain ⟨n, hn⟩ := Int.eq_ofNat_of_zero_le (show 0 ≤ w - 100 by omega)
    have h20 := hW.2.1
    obtain ⟨q1, q2, q3⟩ := hW.2.2 n (by omega)
    rw [hn] at e ⊢
    rw [Int.toNat_natCast] at e
    subst e
    exact ⟨q3, Or.inr ⟨a, by omega, q1, q2⟩⟩
theorem m221 {Q : Int → Mem → Prop} (hp : PtrM M) (hW : MLrn M L W) (hS : MSpk M L S) (h : WdIs W S w l) : WI 221 [vR 204, vI w] M Q = Q l.length M := by
  obtain ⟨-, q⟩ := h.ok hW hS
  refine FN.wi (WC.fn (t_221 o204 ?_))
  rw [hp.at (show ((61 : Int), (230 : Int)) ∈ mpT by decide), hp.at (show ((58 : Int), (227 : Int)) ∈ mpT by decide)]
  rcases q with ⟨a, b, c, d, -⟩ | ⟨a, b, d, -⟩
  · rw [if_neg (by omega), d]
    exact ⟨by omega, gC z226.2 b (by show _ < ((8 : Nat) : Int); omega), rfl, rfl⟩
  · rw [if_pos a, show 1 + w - 100 = 1 + (w - 100) by omega, d]
    exact ⟨by omega, gC z230 (by omega) (by show _ < ((267 : Nat) : Int); omega), rfl, rfl⟩
theorem m222 {Q : Int → Mem → Prop} {i : Int} (hp : PtrM M) (hW : MLrn M L W) (hS : MSpk M L S) (h : WdIs W S w l) (h0 : 0 ≤ i) (h1 : i < l.length) : WI 222 [vR 204, vI w, vI i] M Q = Q (gi l i) M := by
  obtain ⟨hv, q⟩ := h.ok hW hS
  have h12 := hv.2.1
  refine FN.wi (WC.fn (t_222 o204 ?_))
  rw [hp.at (show ((61 : Int), (230 : Int)) ∈ mpT by decide), hp.at (show ((57 : Int), (226 : Int)) ∈ mpT by decide)]
  rcases q with ⟨a, b, c, -, d⟩ | ⟨a, b, -, d⟩
  · rw [if_neg (by omega), d i h0 h1]
    exact ⟨by omega, gC z226.1 (by omega) (by show _ < ((96 : Nat) : Int); omega), rfl, rfl⟩
  · rw [if_pos a, d i h0 h1]
    exact ⟨by omega, gC z230 (by omega) (by show _ < ((267 : Nat) : Int); omega), rfl, rfl⟩
theorem frmL {M' : Mem} (g : ∀ k : Int, k ≠ 204 → k ≠ 232 → k ≠ 233 → k ≠ 234 → M' k = M k) (f : ∀ j : Int, j ≠ 69 → j ≠ 70 → M' 204 j = M 204 j) : FrM M M' := ⟨fun k a b => g k b (by omega) (by omega) (by omega), fun j a b _ _ => f j a b⟩
theorem m228 {Q : Mem → Prop} (h : MLaw M L) (hW : MLrn M L W) (hm : M 204 69 = l.length) (hs : SegIs M 232 0 l) (hon : onl L l) (h12 : l.length ≤ 12) (hQ : ∀ M' : Mem, (∀ k : Int, k ≠ 204 → k ≠ 233 → k ≠ 234 → M' k = M k) → (∀ j : Int, j ≠ 70 → M' 204 j = M 204 j) → MCutH M' L W (X0 L l) → Q M') : WV 228 [vR 204] M Q := by
  have hX := X0_h L l h12
  have hlen := (layT_ok L l.length l 0 (Nat.le_refl _)).1
  have hw := h.2.2.2.2
  have up : ∀ {c : Nat} {N : Mem}, (∀ k : Nat, k < c → N 233 k = hst (X0 L l) k ∧ N 234 k = hsz (X0 L l) k) → ∀ k : Int, 0 ≤ k → k < c → N 233 k = hst (X0 L l) k ∧ N 234 k = hsz (X0 L l) k := by
    intro c N hk k h0 h1
    obtain ⟨m, rfl⟩ := Int.eq_ofNat_of_zero_le h0
    exact hk m (by omega)
  have key : ∀ (n i c : Nat) (N : Mem) (P : AV → Mem → Prop), l.length - i ≤ n → (∀ k : Int, k ≠ 204 → k ≠ 233 → k ≠ 234 → N k = M k) → (∀ j : Int, j ≠ 70 → N 204 j = M 204 j) → N 204 70 = c → (lay L 0 l).drop c = lay L i (l.drop i) → c ≤ (lay L 0 l).length → i ≤ l.length → (∀ k : Nat, k < c → N 233 k = hst (X0 L l) k ∧ N 234 k = hsz (X0 L l) k) → (∀ (v : AV) (M' : Mem), (∀ k : Int, k ≠ 204 → k ≠ 233 → k ≠ 234 → M' k = M k) → (∀ j : Int, j ≠ 70 → M' 204 j = M 204 j) → MCutH M' L W (X0 L l) → P v M') → WR 228 7 [some (vR 204), some (vI i)] [] N P := by
    have fin : ∀ (i c : Nat) (N : Mem) (P : AV → Mem → Prop), l.length ≤ i → (∀ k : Int, k ≠ 204 → k ≠ 233 → k ≠ 234 → N k = M k) → (∀ j : Int, j ≠ 70 → N 204 j = M 204 j) → N 204 70 = c → (lay L 0 l).drop c = lay L i (l.drop i) → c ≤ (lay L 0 l).length → i ≤ l.length → (∀ k : Nat, k < c → N 233 k = hst (X0 L l) k ∧ N 234 k = hsz (X0 L l) k) → (∀ (v : AV) (M' : Mem), (∀ k : Int, k ≠ 204 → k ≠ 233 → k ≠ 234 → M' k = M k) → (∀ j : Int, j ≠ 70 → M' 204 j = M 204 j) → MCutH M' L W (X0 L l) → P v M') → WR 228 7 [some (vR 204), some (vI i)] [] N P := by
      intro i c N P hil g f e70 hd hc hi hk hP
      rw [List.drop_eq_nil_of_le hil, lay_nil] at hd
      have hcl := List.drop_eq_nil_iff.mp hd
      have hcc : cnt (X0 L l) = c := by show ((lay L 0 l).length : Int) = c; omega
      have hf : FrM M N := frmL (fun k a _ b c => g k a b c) (fun j _ b => f j b)
      refine t_228_7 o204 ?_
      rw [f 69 (by decide), hm]
      refine ⟨by omega, by omega, ?_⟩
      rw [if_pos (by omega)]
      refine hP _ _ g f ⟨h.fr hf, hW.fr hf, by rw [f 69 (by decide)]; exact hm, by rw [hcc]; exact e70, ?_, hon, hX, fun k a b => up hk k a (by omega)⟩
      unfold SegIs
      rw [g 232 (by decide) (by decide) (by decide)]
      exact hs
    intro n
    induction n with
    | zero =>
      intro i c N P hn g f e70 hd hc hi hk hP
      exact fin i c N P (by omega) g f e70 hd hc hi hk hP
    | succ n ih =>
      intro i c N P hn g f e70 hd hc hi hk hP
      by_cases hil : l.length ≤ i
      · exact fin i c N P hil g f e70 hd hc hi hk hP
      have hf : FrM M N := frmL (fun k a _ b c => g k a b c) (fun j _ b => f j b)
      have hLN := h.fr hf
      have e64 : N 204 64 = 232 := hLN.1.at (by decide)
      have e65 : N 204 65 = 233 := hLN.1.at (by decide)
      have e66 : N 204 66 = 234 := hLN.1.at (by decide)
      have hsN : ∀ j : Int, 0 ≤ j → j < l.length → N 232 j = gi l j := fun j a b => by
        rw [g 232 (by decide) (by decide) (by decide)]
        have := hs j a b
        rw [Int.zero_add] at this
        exact this
      have q1 := hon _ (gi_mem (l := l) (i := (i : Int)) (by omega) (by omega))
      have hga := onl_r hw hon (i := (i : Int)) (by omega) (by omega)
      refine t_228_7 o204 ?_
      rw [f 69 (by decide), hm, e64, hsN i (by omega) (by omega), m225 hLN q1.1 q1.2]
      refine ⟨by omega, by omega, ?_⟩
      rw [if_neg (by omega)]
      refine ⟨gC zC.1 (by omega) (by show _ < ((12 : Nat) : Int); omega), by have := b2i_r (pkn L (gi l i)); omega, ?_⟩
      rw [drop_cons (by omega)] at hd
      cases hpk : pkn L (gi l i)
      · rw [if_pos (by decide)]
        rw [lay_no hpk] at hd
        exact ih (i + 1) c N P (by omega) g f e70 hd hc (by omega) hk hP
      rw [if_neg (by decide), e65, e70]
      have hcl : c < (lay L 0 l).length := by
        rcases Nat.lt_or_ge c (lay L 0 l).length with q | q
        · exact q
        · exfalso
          rw [List.drop_eq_nil_of_le q] at hd
          cases hlg : longH L (gi l i) (gi (l.drop (i + 1)) 0)
          · rw [lay_1 hpk hlg] at hd; cases hd
          · cases hdr : l.drop (i + 1) with
            | nil => rw [hdr, show gi [] 0 = -1 from rfl, longH_out] at hlg; cases hlg
            | cons b r' =>
              rw [hdr] at hlg hd
              replace hlg : longH L (gi l i) b = true := hlg
              rw [lay_2 hpk hlg] at hd
              cases hd
      have hg33 : gA 20 233 c := gC zC.2.1 (by omega) (by show _ < ((12 : Nat) : Int); omega)
      have hg34 : gA 20 234 c := gC zC.2.2.1 (by omega) (by show _ < ((12 : Nat) : Int); omega)
      refine ⟨hg33, by omega, ?_⟩
      have o1 : ∀ k : Int, k ≠ 233 → upM N 233 (c : Int) (i : Int) k = N k := fun k q => upM_o q
      have s1 : upM N 233 (c : Int) (i : Int) 233 c = i := upM_s
      have f1 : ∀ b : Int, b ≠ c → upM N 233 (c : Int) (i : Int) 233 b = N 233 b := fun b q => upM_f q
      generalize upM N 233 (c : Int) (i : Int) = N1 at o1 s1 f1 ⊢
      rw [o1 204 (by decide), f 69 (by decide), hm, e66, e70, e64, o1 232 (by decide)]
      have step : ∀ z : Nat, (z = 1 ∨ z = 2) → (lay L 0 l).drop c = (i, z) :: lay L (i + z) (l.drop (i + z)) → i + z ≤ l.length → gA 20 234 (c : Int) ∧ gA 20 (upM N1 234 (c : Int) (z : Int) 204 66) (upM N1 234 (c : Int) (z : Int) 204 70) ∧ WR 228 7 [some (vR 204), some (vI (i + upM N1 234 (c : Int) (z : Int) (upM N1 234 (c : Int) (z : Int) 204 66) (upM N1 234 (c : Int) (z : Int) 204 70)))] [] (upM (upM N1 234 (c : Int) (z : Int)) 204 70 (upM N1 234 (c : Int) (z : Int) 204 70 + 1)) P := by
        intro z hz hdz hiz
        obtain ⟨d1, d2, d3⟩ := hd_cons hdz
        rw [upM_o (k := 234) (a := 204) (by decide), o1 204 (by decide), e66, e70, upM_s]
        refine ⟨hg34, hg34, ?_⟩
        rw [show (i : Int) + (z : Int) = ((i + z : Nat) : Int) by omega]
        refine ih (i + z) (c + 1) _ P (by omega) ?_ ?_ ?_ d3 d1 hiz ?_ hP
        · intro k a b c1
          rw [upM_o a, upM_o c1, o1 k b]
          exact g k a b c1
        · intro j a
          rw [upM_f a, upM_o (by decide), o1 204 (by decide)]
          exact f j a
        · rw [upM_s]; rfl
        · intro k hkc
          rw [upM_o (by decide), upM_o (by decide), upM_o (k := 204) (by decide)]
          by_cases hkk : k = c
          · subst hkk
            rw [s1, upM_s]
            unfold hst hsz
            rw [Int.toNat_natCast]
            show _ = (((lay L 0 l).getD k (0, 0)).1 : Int) ∧ _ = (((lay L 0 l).getD k (0, 0)).2 : Int)
            rw [d2]
            exact ⟨rfl, rfl⟩
          · rw [f1 k (by omega), upM_f (by omega), o1 234 (by decide)]
            exact hk k (by omega)
      refine ⟨by omega, ?_⟩
      by_cases hi2 : (l.length : Int) ≤ (i : Int) + 1
      · rw [if_pos hi2]
        have hlg : longH L (gi l i) (gi (l.drop (i + 1)) 0) = false := by
          rw [gi_drop, gi_out (l := l) (i := ((i + 1 : Nat) : Int)) (Or.inr (by omega)), longH_out]
        rw [lay_1 hpk hlg] at hd
        exact step 1 (Or.inl rfl) hd (by omega)
      rw [if_neg hi2]
      have q2 := hon _ (gi_mem (l := l) (i := (i : Int) + 1) (by omega) (by omega))
      have hN1 : FrM M N1 := frmL (fun k a _ b c => by rw [o1 k b]; exact g k a b c) (fun j _ b => by rw [o1 204 (by decide)]; exact f j b)
      rw [hsN i (by omega) (by omega), hsN ((i : Int) + 1) (by omega) (by omega), m226 (h.fr hN1) q1.1 q1.2 q2.1 q2.2]
      refine ⟨gC zC.1 (by omega) (by show _ < ((12 : Nat) : Int); omega), gC zC.1 (by omega) (by show _ < ((12 : Nat) : Int); omega), by have := b2i_r (longH L (gi l i) (gi l (i + 1))); omega, ?_⟩
      cases hlg : longH L (gi l i) (gi l (i + 1))
      · rw [if_pos (by decide)]
        rw [lay_1 hpk (by rw [gi_drop]; exact hlg)] at hd
        exact step 1 (Or.inl rfl) hd (by omega)
      · rw [if_neg (by decide)]
        have ed := drop_cons (show i + 1 < l.length by omega)
        rw [show ((i + 1 : Nat) : Int) = (i : Int) + 1 from rfl] at ed
        rw [ed, lay_2 hpk hlg] at hd
        exact step 2 (Or.inr rfl) hd (by omega)
  refine t_228 o204 (key l.length 0 0 _ _ (by omega) ?_ ?_ ?_ (by simp) (by omega) (by omega) (fun k hk => absurd hk (Nat.not_lt_zero k)) (fun _ M' a b c => hQ M' a b c))
  · intro k a b c
    rw [upM_o a]
  · intro j a
    rw [upM_f a]
  · rw [upM_s]; rfl
theorem m227 {Q : Mem → Prop} (h : MLaw M L) (hW : MLrn M L W) (hS : MSpk M L S) (hw : WdIs W S w l) (hQ : ∀ M' : Mem, FrM M M' → MCutH M' L W (X0 L l) → Q M') : WV 227 [vR 204, vI w] M Q := by
  obtain ⟨hv, hwl⟩ := hw.ok hW hS
  have h12 := hv.2.1
  have hwr : inR w := by rcases hwl with q | q <;> omega
  have key : ∀ (n i : Nat) (N : Mem) (P : AV → Mem → Prop), i + n = l.length → (∀ k : Int, k ≠ 204 → k ≠ 232 → N k = M k) → (∀ j : Int, j ≠ 69 → N 204 j = M 204 j) → N 204 69 = l.length → (∀ j : Int, 0 ≤ j → j < i → N 232 j = gi l j) → (∀ (v : AV) (M' : Mem), FrM M M' → MCutH M' L W (X0 L l) → P v M') → WR 227 11 [some (vR 204), some (vI w), some (vI i)] [] N P := by
    intro n
    induction n with
    | zero =>
      intro i N P hi g f e69 hk hP
      have hf : FrM M N := frmL (fun k a b _ _ => g k a b) (fun j a _ => f j a)
      refine t_227_11 o204 ?_
      rw [e69]
      refine ⟨by omega, by omega, ?_⟩
      rw [if_pos (by omega)]
      refine m228 (h.fr hf) (hW.fr hf) e69 (fun j a b => by rw [Int.zero_add]; exact hk j a (by omega)) hv.2.2 h12 (fun M' g2 f2 hM' => hP _ M' (hf.tr (frmL (fun k a _ b c => g2 k a b c) (fun j _ b => f2 j b))) hM')
    | succ n ih =>
      intro i N P hi g f e69 hk hP
      have hf : FrM M N := frmL (fun k a b _ _ => g k a b) (fun j a _ => f j a)
      refine t_227_11 o204 ?_
      rw [e69, m222 (h.1.fr hf) (hW.fr hf) (hS.fr hf) hw (by omega) (by omega), (h.1.fr hf).at (show ((64 : Int), (232 : Int)) ∈ mpT by decide)]
      refine ⟨by omega, by omega, ?_⟩
      rw [if_neg (by omega)]
      refine ⟨gC zC.1 (by omega) (by show _ < ((12 : Nat) : Int); omega), ih (i + 1) _ P (by omega) (fun k a b => by rw [upM_o b]; exact g k a b) (fun j a => by rw [upM_o (by decide)]; exact f j a) (by rw [upM_o (by decide)]; exact e69) (fun j a b => ?_) hP⟩
      by_cases e : j = i
      · rw [e, upM_s]
      · rw [upM_f e]
        exact hk j a (by omega)
  refine t_227 o204 ?_
  rw [m221 h.1 hW hS hw]
  exact key l.length 0 _ _ (by omega) (fun k a b => upM_o a) (fun j a => upM_f a) upM_s (fun j a b => by omega) (fun _ M' a b => hQ M' a b)
end ML
