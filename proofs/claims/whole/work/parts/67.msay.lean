/-! say by the model -/
section MSY
variable {M M' : Mem} {fp ft ft' fp' : Int} {T T' : List Int} {t : Tk} {g : Gs} {L : Lw} {W S : List (List Int)} {c : Int → Int} {A : List Sn}
/-- what the reading of words leaves alone -/
def FrY (M M' : Mem) : Prop := (∀ k : Int, k ≠ 204 → k ≠ 206 → k ≠ 228 → k ≠ 229 → M' k = M k) ∧ ∀ j : Int, (j < 3 ∨ 9 < j) → j ≠ 13 → M' 204 j = M 204 j
theorem FrY.tr {M1 M2 : Mem} (h : FrY M M1) (f : FrY M1 M2) : FrY M M2 := ⟨fun k a b c d => (f.1 k a b c d).trans (h.1 k a b c d), fun j a b => (f.2 j a b).trans (h.2 j a b)⟩
theorem FrJ.y (h : FrJ M M') : FrY M M' := ⟨fun k a b _ _ => h.1 k a b, h.2⟩
theorem PtrM.fy (h : PtrM M) (f : FrY M M') : PtrM M' := fun x hx => by
  have k1 : ∀ q ∈ mpT, (q.1 < 3 ∨ 9 < q.1) ∧ q.1 ≠ 13 := by decide
  rw [f.2 x.1 (k1 x hx).1 (k1 x hx).2]
  exact h x hx
theorem MSnd.fy (h : MSnd M L) (f : FrY M M') : MSnd M' L := by
  unfold MSnd at h ⊢
  rw [f.2 38 (by decide) (by decide), f.1 218 (by decide) (by decide) (by decide) (by decide), f.1 219 (by decide) (by decide) (by decide) (by decide), f.1 220 (by decide) (by decide) (by decide) (by decide), f.1 221 (by decide) (by decide) (by decide) (by decide)]
  exact h
theorem TmR.up9 (h : TmR M T t ft fp) {a b v : Int} (ha : a = 228 ∨ a = 229) : TmR (upM M a b v) T t ft fp := h.o (fun j _ => by rw [upM_o (by omega)]) (upM_o (by omega)) (upM_o (by omega))
theorem FrY.up {a b v : Int} (ha : a = 228 ∨ a = 229) : FrY M (upM M a b v) := ⟨fun k _ _ x y => upM_o (by omega), fun j _ _ => by rw [upM_o (by omega)]⟩
/-- what say ends with: a fault -/
def SayF (Q : Int → Mem → Prop) (M : Mem) (e : Int × Int) : Prop := Q (-1) (upM (upM M 204 10 e.1) 204 11 e.2)
theorem y32e {Q : Int → Mem → Prop} {x1 : Int} {l2 : Option AV} (ht : TmR M T t ft fp) (hf : 1 ≤ ft ∧ ft ≤ 5) (hQ : SayF Q M (ft, fp)) : WR 211 32 [some (vR 204), some (vI x1), l2] [] M (fun r M' => ∃ i, r = vI i ∧ Q i M') := by
  have f8 := ht.2.2.2.1
  have f9 := ht.2.2.2.2
  refine t_211_32 o204 ?_
  rw [m189 f8 (by omega), decide_eq_false (by omega)]
  refine ⟨by decide, ?_⟩
  have e9 : upM M 204 10 ft 204 9 = fp := by rw [upM_f (by decide)]; exact f9
  have e8 : upM (upM M 204 10 ft) 204 11 fp 204 8 = ft := by rw [upM_f (by decide), upM_f (by decide)]; exact f8
  rw [if_pos (by decide), f8, e9, e8]
  refine ⟨by omega, ?_⟩
  rw [if_neg (by omega)]
  exact ⟨_, rfl, hQ⟩
/-- a row is looked at, behind a fault -/
theorem y61e {Q : Int → Mem → Prop} {x1 : Int} {x2 : Nat} (ht : TmR M T t ft fp) (hf : 1 ≤ ft ∧ ft ≤ 5) (h1 : inR x1) (h2 : x2 ≤ 900) (hQ : SayF Q M (ft, fp)) : WR 211 61 [some (vR 204), some (vI x1), some (vI x2)] [] M (fun r M' => ∃ i, r = vI i ∧ Q i M') := by
  have f7 := ht.2.1.2.2.2.2.2
  have f8 := ht.2.2.2.1
  have f9 := ht.2.2.2.2
  have e9 : ∀ N : Mem, N 204 9 = fp → upM N 204 10 ft 204 9 = fp := fun N h => by rw [upM_f (by decide)]; exact h
  have e8 : ∀ N : Mem, N 204 8 = ft → upM (upM N 204 10 ft) 204 11 fp 204 8 = ft := fun N h => by rw [upM_f (by decide), upM_f (by decide)]; exact h
  -- the end of the row
  have fin : inR x1 ∧ (if x1 = 8 then (WV 188 [vR 204, vI 5] M (fun M8 => inR (M8 204 8) ∧ (if (M8 204 8) ≤ 0 then (WR 211 125 [some (vR 204), some (vI x1), some (vI 0)] [] M8 (fun r M' => ∃ i, r = vI i ∧ Q i M')) else (inR (upM (upM M8 204 10 (M8 204 8)) 204 11 (upM M8 204 10 (M8 204 8) 204 9) 204 8) ∧ (if (upM (upM M8 204 10 (M8 204 8)) 204 11 (upM M8 204 10 (M8 204 8) 204 9) 204 8) ≤ 0 then (WR 211 208 [some (vR 204), some (vI x1), some (vI 0)] [] (upM (upM M8 204 10 (M8 204 8)) 204 11 (upM M8 204 10 (M8 204 8) 204 9)) (fun r M' => ∃ i, r = vI i ∧ Q i M')) else ((fun r M' => ∃ i, r = vI i ∧ Q i M') (vI (-1)) (upM (upM M8 204 10 (M8 204 8)) 204 11 (upM M8 204 10 (M8 204 8) 204 9)))))))) else (inR (M 204 8) ∧ (if (M 204 8) ≤ 0 then (WR 211 125 [some (vR 204), some (vI x1), some (vI 0)] [] M (fun r M' => ∃ i, r = vI i ∧ Q i M')) else (inR (upM (upM M 204 10 (M 204 8)) 204 11 (upM M 204 10 (M 204 8) 204 9) 204 8) ∧ (if (upM (upM M 204 10 (M 204 8)) 204 11 (upM M 204 10 (M 204 8) 204 9) 204 8) ≤ 0 then (WR 211 208 [some (vR 204), some (vI x1), some (vI 0)] [] (upM (upM M 204 10 (M 204 8)) 204 11 (upM M 204 10 (M 204 8) 204 9)) (fun r M' => ∃ i, r = vI i ∧ Q i M')) else ((fun r M' => ∃ i, r = vI i ∧ Q i M') (vI (-1)) (upM (upM M 204 10 (M 204 8)) 204 11 (upM M 204 10 (M 204 8) 204 9)))))))) := by
    refine ⟨h1, ?_⟩
    by_cases q : x1 = 8
    · rw [if_pos q]
      refine t_188 o204 ?_
      rw [f8]
      refine ⟨by omega, ?_⟩
      rw [if_neg (by omega)]
      show inR (M 204 8) ∧ _
      rw [f8, e9 M f9, e8 M f8]
      refine ⟨by omega, ?_⟩
      rw [if_neg (by omega)]
      refine ⟨by omega, ?_⟩
      rw [if_neg (by omega)]
      exact ⟨_, rfl, hQ⟩
    · rw [if_neg q, f8, e9 M f9, e8 M f8]
      refine ⟨by omega, ?_⟩
      rw [if_neg (by omega)]
      refine ⟨by omega, ?_⟩
      rw [if_neg (by omega)]
      exact ⟨_, rfl, hQ⟩
  refine t_211_61 o204 ⟨by omega, by omega, ?_⟩
  by_cases q : M 204 7 ≤ x2
  · rw [if_pos q]
    exact fin
  · rw [if_neg q, m189 f8 (by omega), decide_eq_false (by omega)]
    refine ⟨by decide, ?_⟩
    rw [if_pos (by decide)]
    exact fin
theorem z228 : shA SH 228 = (20, 96) ∧ shA SH 229 = (20, 8) := by decide +kernel
/-- a row is looked at: all its sounds are known, or not -/
theorem y61 {Q : Int → Mem → Prop} {n : Nat} (ht : TmR M T t 0 fp) (hp : PtrM M) (hm : MSnd M L) (hn : Ln L ≤ 16) (h1 : t.1 = 1) (hn8 : n ≤ 8) (hQ : if rE0 L T t 0 ≠ 0 then ∀ M' : Mem, FrY M M' → SayF Q M' (rE0 L T t 0, t.2.1) else if n = 8 then ∀ M' : Mem, FrY M M' → SayF Q M' (5, t.2.1) else WR 211 125 [some (vR 204), some (vI n), some (vI 0)] [] M (fun r M' => ∃ i, r = vI i ∧ Q i M')) : ∀ (k j : Nat), j + k = t.2.2 → ((cds L T t).take j).any (badA L 0) = false → WR 211 61 [some (vR 204), some (vI n), some (vI j)] [] M (fun r M' => ∃ i, r = vI i ∧ Q i M') := by
  have f8 := ht.2.2.2.1
  obtain ⟨n7, n12, n1, n2⟩ := rw_n ht h1
  obtain ⟨l1, l2, l3⟩ := ht.2.2.1.2.1 h1
  have f6 := (ht.2.1.2.2.2.2.1 h1).2.2
  have p48 : M 204 48 = 218 := hp.at (by decide)
  have cl := @cds_len T t L ht.2.2.1
  intro k
  induction k with
  | zero =>
    intro j hj hb
    rw [List.take_of_length_le (by omega)] at hb
    have en : rE0 L T t 0 = 0 := by unfold rE0; rw [if_neg (by omega), if_neg (by rw [hb]; decide)]
    rw [if_neg (fun z => z en)] at hQ
    refine t_211_61 o204 ⟨by omega, ?_⟩
    rw [n7]
    refine ⟨by omega, ?_⟩
    rw [if_pos (by omega)]
    refine ⟨by omega, ?_⟩
    by_cases q : n = 8
    · rw [if_pos (by omega)]
      rw [if_pos q] at hQ
      refine m188 ht (by decide) (fun M1 g1 h2 => ?_)
      rw [if_pos rfl, if_pos rfl, if_neg (by omega)] at h2
      have g8 := h2.2.2.2.1
      have g9 := h2.2.2.2.2
      have e9 : upM M1 204 10 5 204 9 = t.2.1 := by rw [upM_f (by decide)]; exact g9
      have e8 : upM (upM M1 204 10 5) 204 11 t.2.1 204 8 = 5 := by rw [upM_f (by decide), upM_f (by decide)]; exact g8
      rw [g8]
      refine ⟨by decide, ?_⟩
      rw [if_neg (by decide), e9, e8]
      refine ⟨by decide, ?_⟩
      rw [if_neg (by decide)]
      exact ⟨_, rfl, hQ M1 g1.y⟩
    · rw [if_neg (by omega), f8]
      rw [if_neg q] at hQ
      refine ⟨by decide, ?_⟩
      rw [if_pos (by decide)]
      exact hQ
  | succ k ih =>
    intro j hj hb
    have br := l3 j (by omega)
    have ca := @cds_at T t L ht.2.2.1 j (by omega)
    have ct : (cds L T t).take (j + 1) = (cds L T t).take j ++ [numOf L (bt T (t.2.1 + j))] := by
      rw [List.take_add_one, ca]
      rfl
    have nr := num_r L (bt T (t.2.1 + j))
    have hi := hm.2.2 (bt T (t.2.1 + j) - 97) (by omega) (by omega)
    rw [show bt T (t.2.1 + j) - 97 + 97 = bt T (t.2.1 + j) by omega] at hi
    refine t_211_61 o204 ⟨by omega, ?_⟩
    rw [n7]
    refine ⟨by omega, ?_⟩
    rw [if_neg (by omega), m189 f8 (by decide)]
    refine ⟨by decide, ?_⟩
    rw [if_neg (by decide), n12, p48, f6 j (by omega), hi]
    generalize numOf L (bt T (t.2.1 + j)) = a at *
    refine ⟨g206 (by omega) (by omega), gC zTl.1 (by omega) (by show _ < ((26 : Nat) : Int); omega), by omega, ?_⟩
    by_cases q : a = -1
    · rw [if_pos q]
      have en : rE0 L T t 0 = 3 := by
        unfold rE0
        rw [if_neg (by omega), if_pos (List.any_eq_true.mpr ⟨a, List.mem_of_getElem? ca, by unfold badA; rw [decide_eq_true q]; rfl⟩)]
      rw [en, if_pos (by decide)] at hQ
      refine m188 ht (by decide) (fun M1 g1 h2 => ?_)
      rw [if_pos rfl, if_pos rfl, if_neg (by omega)] at h2
      exact y61e (x2 := j + 1) h2 (by decide) (by omega) (by omega) (hQ M1 g1.y)
    · rw [if_neg q]
      refine ih (j + 1) (by omega) ?_
      rw [ct, List.any_append, hb, List.any_cons]
      show (badA L 0 a || false) = false
      unfold badA
      rw [decide_eq_false q]
      rfl
/-- a row is written behind the others -/
theorem y125 {Q : Int → Mem → Prop} (ht : TmR M T t 0 fp) (hp : PtrM M) (hm : MSnd M L) (h1 : t.1 = 1) (hS : TabIs M 229 228 12 S) (hl : ∀ i : Nat, i < S.length → ((S.getD i []).length : Int) ≤ 12) (hn : S.length < 8) (hQ : ∀ M' : Mem, FrY M M' → TmR M' T (nx T t) 0 fp → TabIs M' 229 228 12 (S ++ [cds L T t]) → ∀ l2 : Option AV, WR 211 32 [some (vR 204), some (vI ((S.length : Int) + 1)), l2] [] M' (fun r M' => ∃ i, r = vI i ∧ Q i M')) : WR 211 125 [some (vR 204), some (vI S.length), some (vI 0)] [] M (fun r M' => ∃ i, r = vI i ∧ Q i M') := by
  have cl := @cds_len T t L ht.2.2.1
  obtain ⟨l1, l2, l3⟩ := ht.2.2.1.2.1 h1
  have key : ∀ (n j : Nat), j + n = t.2.2 → ∀ N : Mem, (∀ k : Int, k ≠ 228 → N k = M k) → (∀ x : Int, x < 12 * S.length → N 228 x = M 228 x) → (∀ i : Int, 0 ≤ i → i < j → N 228 (12 * S.length + i) = gi (cds L T t) i) → WR 211 125 [some (vR 204), some (vI S.length), some (vI j)] [] N (fun r M' => ∃ i, r = vI i ∧ Q i M') := by
    intro n
    induction n with
    | zero =>
      intro j hj N e a b
      have fN : FrY M N := ⟨fun k _ _ x _ => e k x, fun j _ _ => by rw [e 204 (by decide)]⟩
      have htN : TmR N T t 0 fp := ht.o (fun j _ => by rw [e 204 (by decide)]) (e 205 (by decide)) (e 206 (by decide))
      obtain ⟨n7, n12, -, -⟩ := rw_n htN h1
      have p60 : N 204 60 = 229 := (hp.fy fN).at (by decide)
      refine t_211_125 o204 ⟨by omega, ?_⟩
      rw [n7]
      refine ⟨by omega, ?_⟩
      rw [if_pos (by omega), p60]
      refine ⟨gC z228.2 (by omega) (by show _ < ((8 : Nat) : Int); omega), ?_⟩
      have f5 : FrY N (upM N 229 S.length t.2.2) := FrY.up (Or.inr rfl)
      have h5 : TmR (upM N 229 S.length t.2.2) T t 0 fp := htN.up9 (Or.inr rfl)
      have t5 : TabIs (upM N 229 S.length t.2.2) 229 228 12 (S ++ [cds L T t]) := tab_app (Or.inl rfl) hS hl (fun x h => by rw [upM_f h, e 229 (by decide)]) (by rw [upM_s, cl]) (fun x h => by rw [upM_o (by decide)]; exact a x h) (fun i x y => by rw [upM_o (by decide)]; exact b i x (by omega))
      generalize upM N 229 S.length t.2.2 = N2 at *
      refine m187n' h5 (fun M5 f6 h6 => hQ M5 (fN.tr (f5.tr f6.y)) h6 ?_ _)
      unfold TabIs SegIs at t5 ⊢
      rw [f6.1 228 (by decide) (by decide), f6.1 229 (by decide) (by decide)]
      exact t5
    | succ n ih =>
      intro j hj N e a b
      have fN : FrY M N := ⟨fun k _ _ x _ => e k x, fun j _ _ => by rw [e 204 (by decide)]⟩
      have htN : TmR N T t 0 fp := ht.o (fun j _ => by rw [e 204 (by decide)]) (e 205 (by decide)) (e 206 (by decide))
      have hmN := hm.fy fN
      obtain ⟨n7, n12, -, -⟩ := rw_n htN h1
      have p48 : N 204 48 = 218 := (hp.fy fN).at (by decide)
      have p59 : N 204 59 = 228 := (hp.fy fN).at (by decide)
      have br := l3 j (by omega)
      have f6 := (htN.2.1.2.2.2.2.1 h1).2.2
      have hi := hmN.2.2 (bt T (t.2.1 + j) - 97) (by omega) (by omega)
      rw [show bt T (t.2.1 + j) - 97 + 97 = bt T (t.2.1 + j) by omega, ← cds_gi ht.2.2.1 (by omega)] at hi
      refine t_211_125 o204 ⟨by omega, ?_⟩
      rw [n7]
      refine ⟨by omega, ?_⟩
      rw [if_neg (by omega), n12, p48, p59, f6 j (by omega), hi]
      refine ⟨g206 (by omega) (by omega), gC zTl.1 (by omega) (by show _ < ((26 : Nat) : Int); omega), gC z228.1 (by omega) (by show _ < ((96 : Nat) : Int); omega), ih (j + 1) (by omega) _ (fun k h => by rw [upM_o h]; exact e k h) (fun x h => by rw [upM_f (by omega)]; exact a x h) (fun i x y => ?_)⟩
      by_cases q : i = j
      · rw [q, upM_s]
      · rw [upM_f (by omega)]
        exact b i x (by omega)
  exact key t.2.2 0 (Nat.zero_add _) M (fun _ _ => rfl) (fun _ _ => rfl) (fun i x y => absurd x (by omega))
theorem m211l {Q : Int → Mem → Prop} (hn : Ln L ≤ 16) : ∀ (n : Nat) (t : Tk) (S : List (List Int)) (N : Mem), T.length ≤ t.2.1 + n → TmR N T t 0 (-1) → PtrM N → MSnd N L → TabIs N 229 228 12 S → OnW L S → S.length ≤ 8 → (∀ M' : Mem, FrY N M' → match sayR L T n t S with
    | .error e => SayF Q M' e
    | .ok S' => TabIs M' 229 228 12 S' → OnW L S' → S'.length ≤ 8 → WR 211 208 [some (vR 204), some (vI S'.length), some (vI 0)] [] (upM (upM M' 204 10 0) 204 11 (-1)) (fun r M' => ∃ i, r = vI i ∧ Q i M')) → ∀ l2 : Option AV, WR 211 32 [some (vR 204), some (vI S.length), l2] [] N (fun r M' => ∃ i, r = vI i ∧ Q i M') := by
  have done : ∀ (t : Tk) (N : Mem) (x : Int) (l2 : Option AV), t.1 = 0 → TmR N T t 0 (-1) → WR 211 208 [some (vR 204), some (vI x), some (vI 0)] [] (upM (upM N 204 10 0) 204 11 (-1)) (fun r M' => ∃ i, r = vI i ∧ Q i M') → WR 211 32 [some (vR 204), some (vI x), l2] [] N (fun r M' => ∃ i, r = vI i ∧ Q i M') := fun t N x l2 h0 ht hq => by
    obtain ⟨k4, e5, -, f8, f9⟩ := ht.sp
    have e9 : upM N 204 10 0 204 9 = -1 := by rw [upM_f (by decide)]; exact f9
    have e8 : upM (upM N 204 10 0) 204 11 (-1) 204 8 = 0 := by rw [upM_f (by decide), upM_f (by decide)]; exact f8
    refine t_211_32 o204 ?_
    rw [m189 f8 (by decide), e5, f8]
    refine ⟨by decide, ?_⟩
    rw [if_neg (by decide)]
    refine ⟨by omega, ?_⟩
    rw [if_pos h0, e9, e8]
    refine ⟨by decide, ?_⟩
    rw [if_pos (by decide)]
    exact hq
  intro n
  induction n with
  | zero =>
    intro t S N hl ht hp hm hS hO h8 hQ l2
    have ok : TkOk T t := ht.2.2.1
    have h0 : t.1 = 0 := by
      by_cases q : t.1 = 0
      · exact q
      · have := ok.2.2.2.1 q
        have := ok.1
        omega
    exact done t N _ l2 h0 ht (hQ N FrJ.rf.y hS hO h8)
  | succ n ih =>
    intro t S N hl ht hp hm hS hO h8 hQ l2
    unfold sayR at hQ
    by_cases q : t.1 = 0
    · rw [if_pos q] at hQ
      exact done t N _ l2 q ht (hQ N FrJ.rf.y hS hO h8)
    rw [if_neg q] at hQ
    obtain ⟨k4, e5, -, f8, f9⟩ := ht.sp
    have wr := @wrg_r t
    have er := @rE0_r T t L 0
    refine t_211_32 o204 ?_
    rw [m189 f8 (by decide), e5]
    refine ⟨by decide, ?_⟩
    rw [if_neg (by decide)]
    refine ⟨by omega, ?_⟩
    rw [if_neg q]
    by_cases q1 : t.1 = 1
    rotate_left
    · rw [if_neg q1]
      have en : rE0 L T t 0 = wrg t := by unfold rE0; rw [if_pos q1]
      rw [rEr_bad (by omega), en, if_pos (by omega)] at hQ
      refine m188 ht (by decide) (fun M1 g1 h2 => ?_)
      have ew : (if (0 : Int) = 0 then (if t.1 = 4 then (1 : Int) else 2) else 0) = wrg t := by rw [if_pos rfl]; rfl
      rw [ew, if_pos rfl] at h2
      exact y61e (x2 := 0) h2 (by omega) (by omega) (by decide) (hQ M1 g1.y)
    rw [if_pos q1]
    obtain ⟨n7, n12, n1, n2⟩ := rw_n ht q1
    refine y61 (n := S.length) ht hp hm hn q1 h8 ?_ t.2.2 0 (Nat.zero_add _) rfl
    by_cases q2 : rE0 L T t 0 = 0
    rotate_left
    · rw [if_pos q2]
      rw [rEr_bad q2, if_pos q2] at hQ
      exact hQ
    rw [if_neg (fun z => z q2)]
    rw [rEr_fit q2 (by omega), if_neg (fun z => z rfl)] at hQ
    by_cases q3 : S.length = 8
    · rw [if_pos q3]
      rw [if_pos (by omega)] at hQ
      exact hQ
    rw [if_neg q3]
    rw [if_neg (by omega)] at hQ
    obtain ⟨k1, k2, k3, k4', k5⟩ := rE0_ok ht.2.2.1 q2
    have ge := @nx_ge T t
    refine y125 (L := L) ht hp hm q1 hS (fun i hi => by have := (hO i hi).2.1; omega) (by omega) (fun M' f1 h1 hS1 l2' => ?_)
    have := ih (nx T t) (S ++ [cds L T t]) M' (by omega) h1 (hp.fy f1) (hm.fy f1) hS1 (fun i hi => by
      rw [List.length_append, List.length_singleton] at hi
      rw [getD_app]
      by_cases q4 : i < S.length
      · rw [if_pos q4]; exact hO i q4
      · rw [if_neg q4, show i = S.length by omega, Nat.sub_self]
        exact ⟨by show 1 ≤ (cds L T t).length; omega, by show (cds L T t).length ≤ 12; omega, fun s hs => (k5 s hs).1⟩) (by rw [List.length_append, List.length_singleton]; omega) (fun M2 f2 => hQ M2 (f1.tr f2)) l2'
    rw [List.length_append, List.length_singleton] at this
    exact this
theorem mSay {Q : Int → Mem → Prop} (h : MdlS M T ft fp L W S c A) (hQ : ∀ M' : Mem, if T.length ≤ 200 then (match sayA L T with
    | .error e => MdlS M' [] e.1 e.2 L W S c A → Q (-1) M'
    | .ok S' => MdlS M' [] 0 (-1) L W S' c A → Q S'.length M') else MdlS M' T ft fp L W S c A → Q (-2) M') : WI 211 [vR 204] M Q := by
  have hT := h.2.2.1
  have hp := h.1.1.1
  have hl := hT.2.1
  have hn : Ln L ≤ 16 := h.1.1.2.2.2.2.1.1
  refine t_211 o204 ?_
  rw [hT.1]
  refine ⟨by omega, ?_⟩
  by_cases ql : T.length ≤ 200
  rotate_left
  · rw [if_neg (by omega)]
    have := hQ M
    rw [if_neg ql] at this
    exact ⟨_, rfl, this h⟩
  rw [if_pos (by omega)]
  have hQ := fun M' => (by have := hQ M'; rw [if_pos ql] at this; exact this : match sayA L T with
    | .error e => MdlS M' [] e.1 e.2 L W S c A → Q (-1) M'
    | .ok S' => MdlS M' [] 0 (-1) L W S' c A → Q S'.length M')
  refine m208 hT (hp.at (by decide)) (hp.at (by decide)) (fun M2 e2 f2 z2 h2 => ?_)
  have hp2 : PtrM M2 := fun x hx => by
    have : ∀ q ∈ mpT, (q.1 < 1 ∨ 9 < q.1) ∧ q.1 ≠ 13 := by decide
    rw [f2 x.1 (this x hx).1 (this x hx).2]
    exact hp x hx
  have hm2 : MSnd M2 L := by
    have := h.1.1.2.1
    unfold MSnd at this ⊢
    rw [f2 38 (by decide) (by decide), e2 218 (by decide) (by decide), e2 219 (by decide) (by decide), e2 220 (by decide) (by decide), e2 221 (by decide) (by decide)]
    exact this
  -- a fault
  have fault : ∀ (e : Int × Int) (M3 : Mem), FrY M2 M3 → (∀ M' : Mem, MdlS M' [] e.1 e.2 L W S c A → Q (-1) M') → SayF Q M3 e := fun e M3 f3 hq => by
    have o : ∀ k : Int, k ≠ 204 → upM (upM M3 204 10 e.1) 204 11 e.2 k = M3 k := fun k a => by rw [upM_o a, upM_o a]
    have u : ∀ j : Int, j ≠ 10 → j ≠ 11 → upM (upM M3 204 10 e.1) 204 11 e.2 204 j = M3 204 j := fun j a b => by rw [upM_f b, upM_f a]
    exact hq _ (h.rd (fun k a x y => by rw [o k (by omega), f3.1 k (by omega) (by omega) x y, e2 k (by omega) (by omega)]) (fun j a b => by rw [u j (by omega) (by omega), f3.2 j (by omega) (by omega), f2 j (by omega) (by omega)]) ⟨by rw [u 1 (by decide) (by decide), f3.2 1 (by decide) (by decide)]; exact z2, by decide, fun b hb => absurd hb List.not_mem_nil, fun j hj => absurd hj (Nat.not_lt_zero _), by rw [upM_f (by decide), upM_s], upM_s⟩)
  have ok : ∀ (S' : List (List Int)) (M3 : Mem), FrY M2 M3 → (∀ M' : Mem, MdlS M' [] 0 (-1) L W S' c A → Q S'.length M') → TabIs M3 229 228 12 S' → OnW L S' → S'.length ≤ 8 → WR 211 208 [some (vR 204), some (vI S'.length), some (vI 0)] [] (upM (upM M3 204 10 0) 204 11 (-1)) (fun r M' => ∃ i, r = vI i ∧ Q i M') := fun S' M3 f3 hq hS hO h8 => by
    have o : ∀ k : Int, k ≠ 204 → upM (upM M3 204 10 0) 204 11 (-1) k = M3 k := fun k a => by rw [upM_o a, upM_o a]
    have u : ∀ j : Int, j ≠ 10 → j ≠ 11 → upM (upM M3 204 10 0) 204 11 (-1) 204 j = M3 204 j := fun j a b => by rw [upM_f b, upM_f a]
    have w10 : upM (upM M3 204 10 0) 204 11 (-1) 204 10 = 0 := by rw [upM_f (by decide), upM_s]
    have w11 : upM (upM M3 204 10 0) 204 11 (-1) 204 11 = -1 := upM_s
    generalize upM (upM M3 204 10 0) 204 11 (-1) = K at *
    have pK : PtrM K := fun x hx => by
      have : ∀ q ∈ mpT, q.1 ≠ 10 ∧ q.1 ≠ 11 := by decide
      rw [u x.1 (this x hx).1 (this x hx).2]
      exact (hp2.fy f3) x hx
    have hK : MdlS K [] 0 (-1) L W S c A := h.rd (fun k a x y => by rw [o k (by omega), f3.1 k (by omega) (by omega) x y, e2 k (by omega) (by omega)]) (fun j a b => by rw [u j (by omega) (by omega), f3.2 j (by omega) (by omega), f2 j (by omega) (by omega)]) ⟨by rw [u 1 (by decide) (by decide), f3.2 1 (by decide) (by decide)]; exact z2, by decide, fun b hb => absurd hb List.not_mem_nil, fun j hj => absurd hj (Nat.not_lt_zero _), w10, w11⟩
    refine m211y pK (fun M4 e4 x4 => ?_)
    have p4 : PtrM M4 := fun x hx => by rw [e4 204 (by decide)]; exact pK x hx
    refine m211z p4 (fun M5 e5 x5 => ⟨_, rfl, hq _ ?_⟩)
    have oF : ∀ k : Int, k ≠ 204 → upM M5 204 56 S'.length k = M5 k := fun k a => upM_o a
    have uF : ∀ j : Int, j ≠ 56 → upM M5 204 56 S'.length 204 j = K 204 j := fun j a => by rw [upM_f a, e5 204 (by decide), e4 204 (by decide)]
    have w56 : upM M5 204 56 S'.length 204 56 = S'.length := upM_s
    generalize upM M5 204 56 S'.length = F at *
    have g6 : ∀ k : Int, k ≠ 204 → k ≠ 226 → k ≠ 227 → F k = K k := fun k a b c => by rw [oF k a, e5 k c, e4 k b]
    have r6 : ∀ i : Int, 0 ≤ i → i < 96 → F 226 i = M3 228 i := fun i a b => by rw [oF 226 (by decide), e5 226 (by decide), x4 i a b, o 228 (by decide)]
    have r7 : ∀ i : Int, 0 ≤ i → i < 8 → F 227 i = M3 229 i := fun i a b => by rw [oF 227 (by decide), x5 i a b, e4 229 (by decide), o 229 (by decide)]
    obtain ⟨b1, b2, b3, b4⟩ := hK
    obtain ⟨⟨a1, a2, a3, a4, a5⟩, b, d, e⟩ := b1
    refine ⟨⟨⟨?_, ?_, ?_, ?_, a5⟩, ?_, ⟨w56, h8, fun i hi => ⟨?_, fun j j0 j1 => ?_, hO i hi⟩⟩, ?_⟩, b2.e (uF 84 (by decide)) (fun k x y => g6 k (by omega) (by omega) (by omega)), ?_, b4.fr (uF 63 (by decide)) (g6 231 (by decide) (by decide) (by decide))⟩
    · intro x hx
      have : ∀ q ∈ mpT, q.1 ≠ 56 := by decide
      rw [uF x.1 (this x hx)]
      exact a1 x hx
    · unfold MSnd at a2 ⊢
      rw [uF 38 (by decide), g6 218 (by decide) (by decide) (by decide), g6 219 (by decide) (by decide) (by decide), g6 220 (by decide) (by decide) (by decide), g6 221 (by decide) (by decide) (by decide)]
      exact a2
    · unfold MTld SegIs at a3 ⊢
      rw [uF 39 (by decide), uF 40 (by decide), g6 222 (by decide) (by decide) (by decide), g6 223 (by decide) (by decide) (by decide), g6 224 (by decide) (by decide) (by decide)]
      exact a3
    · unfold MNum at a4 ⊢
      rw [uF 41 (by decide), uF 42 (by decide), uF 43 (by decide), uF 44 (by decide), uF 45 (by decide), uF 46 (by decide), uF 47 (by decide), g6 225 (by decide) (by decide) (by decide)]
      exact a4
    · unfold MLrn SegIs at b ⊢
      rw [g6 230 (by decide) (by decide) (by decide)]
      exact b
    · rw [r7 i (by omega) (by omega)]
      exact (hS i hi).1
    · have := (hO i hi).2.1
      rw [r6 _ (by omega) (by omega)]
      exact (hS i hi).2 j j0 j1
    · unfold MCost at e ⊢
      rw [g6 230 (by decide) (by decide) (by decide)]
      exact e
    · unfold TapM at b3 ⊢
      rw [uF 1 (by decide), uF 10 (by decide), uF 11 (by decide), g6 205 (by decide) (by decide) (by decide)]
      exact b3
  obtain ⟨k4, e5, -, f8, f9⟩ := h2.sp
  have wr := @wrg_r (nxt T 0)
  rw [e5]
  refine ⟨by omega, ?_⟩
  unfold sayA at hQ
  have e0 : TabIs M2 229 228 12 [] := fun i hi => absurd hi (Nat.not_lt_zero _)
  have go : (nxt T 0).1 ≠ 0 → ∀ M' : Mem, FrY M2 M' → match sayR L T 900 (nxt T 0) [] with
    | .error e => SayF Q M' e
    | .ok S' => TabIs M' 229 228 12 S' → OnW L S' → S'.length ≤ 8 → WR 211 208 [some (vR 204), some (vI S'.length), some (vI 0)] [] (upM (upM M' 204 10 0) 204 11 (-1)) (fun r M' => ∃ i, r = vI i ∧ Q i M') := fun q0 M3 f3 => by
    rw [if_neg q0] at hQ
    generalize sayR L T 900 (nxt T 0) [] = r at *
    cases r with
    | error e => exact fault e M3 f3 hQ
    | ok S' => exact ok S' M3 f3 hQ
  by_cases q1 : (nxt T 0).1 = 1
  · rw [if_pos q1]
    exact m211l hn 900 (nxt T 0) [] M2 (by omega) h2 hp2 hm2 e0 (fun i hi => absurd hi (Nat.not_lt_zero _)) (by decide) (go (by omega)) none
  rw [if_neg q1]
  refine m188 h2 (by decide) (fun M3 f3 h3 => ?_)
  have ew : (if (0 : Int) = 0 then (if (nxt T 0).1 = 4 then (1 : Int) else 2) else 0) = wrg (nxt T 0) := by rw [if_pos rfl]; rfl
  rw [ew, if_pos rfl] at h3
  refine y32e h3 (by omega) ?_
  by_cases q0 : (nxt T 0).1 = 0
  · rw [if_pos q0] at hQ
    have e2' : wrg (nxt T 0) = 2 := by unfold wrg; rw [if_neg (by omega)]
    rw [e2']
    exact fault _ M3 f3.y hQ
  · have gg := go q0 M3 f3.y
    have en : rE0 L T (nxt T 0) 0 = wrg (nxt T 0) := by unfold rE0; rw [if_pos q1]
    have es : sayR L T 900 (nxt T 0) [] = .error (wrg (nxt T 0), ((nxt T 0).2.1 : Int)) := by
      show (if (nxt T 0).1 = 0 then _ else if rEr L T (nxt T 0) 0 1 12 ≠ 0 then _ else _) = _
      rw [if_neg q0, rEr_bad (by omega), en, if_pos (by omega)]
    rw [es] at gg
    exact gg
end MSY
