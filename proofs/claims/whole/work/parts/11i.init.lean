/-! BOTH OBJECTS MADE: the two constructors run once, over empty cells. -/
def MZ : Mem := fun _ _ => 0
def eqL (f : Int → Int) : Int → List Int → Bool
  | _, [] => true
  | j, v :: l => decide (f j = v) && eqL f (j + 1) l
/-- cells' contents behind the constructors: the cell, the first place, the values from there on -/
def fcT : List (Int × Int × List Int) := [(1, 0, [2, 4, 9, 14, 53, 63, 67, 96, 150]), (2, 0, [3, 0, 0, 0, 0, 0, (-1)]), (4, 0, [2, 5, 7, 8, 0]), (5, 0, [6, 0, 0]), (9, 0, [10, 11, 12, 13, 0, 0, 0, 0, 0, 0]), (14, 0, [9, 15, 34]), (15, 0, [17, 16, 0]), (17, 0, [18, 20, 22, 24, 26, 28, 30, 32]), (18, 0, [19, 0, 0]), (20, 0, [21, 0, 0]), (22, 0, [23, 0, 0]), (24, 0, [25, 0, 0]), (26, 0, [27, 0, 0]), (28, 0, [29, 0, 0]), (30, 0, [31, 0, 0]), (32, 0, [33, 0, 0]), (34, 0, [36, 35, 0]), (36, 0, [37, 39, 41, 43, 45, 47, 49, 51]), (37, 0, [38, 0, 0]), (39, 0, [40, 0, 0]), (41, 0, [42, 0, 0]), (43, 0, [44, 0, 0]), (45, 0, [46, 0, 0]), (47, 0, [48, 0, 0]), (49, 0, [50, 0, 0]), (51, 0, [52, 0, 0]), (53, 0, [9, 54, 58, 62, 0]), (54, 0, [55, 56, 57]), (58, 0, [59, 60, 61]), (63, 0, [9, 64, 66]), (64, 0, [65, 0, 0]), (67, 0, [68, 69, 70, 71, 0]), (71, 0, [72, 74, 76, 78, 80, 82, 84, 86, 88, 90, 92, 94]), (72, 0, [73, 0, 0]), (74, 0, [75, 0, 0]), (76, 0, [77, 0, 0]), (78, 0, [79, 0, 0]), (80, 0, [81, 0, 0]), (82, 0, [83, 0, 0]), (84, 0, [85, 0, 0]), (86, 0, [87, 0, 0]), (88, 0, [89, 0, 0]), (90, 0, [91, 0, 0]), (92, 0, [93, 0, 0]), (94, 0, [95, 0, 0]), (96, 0, [97, 104, 147, 148, 149, 0, 0, (-1), 4, 0, 1, 2, 1, 2, 2, 0, (-1), 1]), (97, 0, [98, 99, 100, 101, 102, 103, 0]), (104, 0, [106, 105, 0]), (106, 0, [107, 109, 111, 113, 115, 117, 119, 121, 123, 125, 127, 129, 131, 133, 135, 137, 139, 141, 143, 145]), (107, 0, [108, 0, 0]), (109, 0, [110, 0, 0]), (111, 0, [112, 0, 0]), (113, 0, [114, 0, 0]), (115, 0, [116, 0, 0]), (117, 0, [118, 0, 0]), (119, 0, [120, 0, 0]), (121, 0, [122, 0, 0]), (123, 0, [124, 0, 0]), (125, 0, [126, 0, 0]), (127, 0, [128, 0, 0]), (129, 0, [130, 0, 0]), (131, 0, [132, 0, 0]), (133, 0, [134, 0, 0]), (135, 0, [136, 0, 0]), (137, 0, [138, 0, 0]), (139, 0, [140, 0, 0]), (141, 0, [142, 0, 0]), (143, 0, [144, 0, 0]), (145, 0, [146, 0, 0]), (150, 0, [151, 158, 201, 202, 203, 0, 0, (-1), 4, 0, 1, 2, 1, 2, 2, 0, (-1), 1]), (151, 0, [152, 153, 154, 155, 156, 157, 0]), (158, 0, [160, 159, 0]), (160, 0, [161, 163, 165, 167, 169, 171, 173, 175, 177, 179, 181, 183, 185, 187, 189, 191, 193, 195, 197, 199]), (161, 0, [162, 0, 0]), (163, 0, [164, 0, 0]), (165, 0, [166, 0, 0]), (167, 0, [168, 0, 0]), (169, 0, [170, 0, 0]), (171, 0, [172, 0, 0]), (173, 0, [174, 0, 0]), (175, 0, [176, 0, 0]), (177, 0, [178, 0, 0]), (179, 0, [180, 0, 0]), (181, 0, [182, 0, 0]), (183, 0, [184, 0, 0]), (185, 0, [186, 0, 0]), (187, 0, [188, 0, 0]), (189, 0, [190, 0, 0]), (191, 0, [192, 0, 0]), (193, 0, [194, 0, 0]), (195, 0, [196, 0, 0]), (197, 0, [198, 0, 0]), (199, 0, [200, 0, 0]), (149, 0, [0, 0, 0, 0, 0, 0]), (203, 0, [0, 0, 0, 0, 0, 0]), (204, 0, [205, 0, 0, 0, 0, 0, 0, 0, 0, (-1), 0, (-1), 206, 0, 0, 0, 0, 0, 0, 0, 0, 0, 0, 0, 0, 0, 0, 207, 208, 209, 210, 211, 212, 213, 214, 215, 216, 217, 0, 0, 0, 0, 0, 0, 0, 0, 0, 0, 218, 219, 220, 221, 222, 223, 224, 225, 0, 226, 227, 228, 229, 230, 231, 0, 232, 233, 234, 235, 236, 0, 0, 237, 238, 239, 240, 241, 242, 243, 244, 245, 246, 247, 248, 249, 0, 0, 0, 250])]
def FcOk (M : Mem) : Prop := ∀ f ∈ fcT, eqL (M f.1) f.2.1 f.2.2 = true
def ini1 : Option (AV × Mem × Sh) := run 2100 143 0 (entL 143 [vR 1]) [] MZ [(11, 9)]
/-- n instructions one behind another that touch no cell below b, and call nothing but the made ones' -/
def okW (b : Int) (i : Ins) (st : List AV) (sh : Sh) : Bool := match i.1, st with
  | 53, _ :: .inr (.inr k) :: _ => decide (b ≤ k)
  | 55, _ :: .inr (.inr k) :: _ => decide (b ≤ k)
  | 72, _ => decide (b ≤ sh.length + 1)
  | 1, _ => true
  | 7, _ => true
  | 83, _ => true
  | _, _ => false
def stp (b : Int) (y : Nat) : Nat → Nat × Lo × List AV × Mem × Sh → Option (Nat × Lo × List AV × Mem × Sh)
  | 0, q => some q
  | n + 1, q => match cd y q.1 with
    | none => none
    | some i => if okW b i q.2.2.1 q.2.2.2.2 = true then match exStep clO (sws y q.1) y i q.2.1 q.2.2.1 q.2.2.2.1 q.2.2.2.2 with
      | some (.inl q') => stp b y n q'
      | _ => none
      else none
theorem okW_fr {b : Int} {sw : List (Int × Nat)} {y : Nat} {i : Ins} {ls : Lo} {st : List AV} {M : Mem} {sh : Sh} {q : Nat × Lo × List AV × Mem × Sh} (hw : okW b i st sh = true) (h : exStep clO sw y i ls st M sh = some (.inl q)) : ∀ k : Int, k < b → q.2.2.2.1 k = M k := by
  obtain ⟨op, a, c, nx⟩ := i
  unfold okW at hw
  dsimp only at hw
  intro k hk
  split at hw
  · rename_i v k' rest
    replace h : exD y 53 a c nx ls (v :: .inr (.inr k') :: rest) M sh = some (.inl q) := h
    simp only [exD] at h
    split at h
    · rename_i e
      simp only [List.cons.injEq, Sum.inr.injEq] at e
      split at h
      · cases h
        funext j
        have := of_decide_eq_true hw
        show upM _ _ _ _ k j = _
        unfold upM
        rw [if_neg (by omega)]
      · cases h
    · cases h
  · rename_i v k' rest
    replace h : exD y 55 a c nx ls (v :: .inr (.inr k') :: rest) M sh = some (.inl q) := h
    simp only [exD] at h
    split at h
    · rename_i e
      simp only [List.cons.injEq, Sum.inr.injEq] at e
      split at h
      · cases h
        funext j
        have := of_decide_eq_true hw
        show upM _ _ _ _ k j = _
        unfold upM
        rw [if_neg (by omega)]
      · cases h
    · cases h
  · replace h : exD y 72 a c nx ls st M sh = some (.inl q) := h
    simp only [exD] at h
    split at h
    · split at h
      · cases h
        funext j
        have := of_decide_eq_true hw
        show zeM _ _ k j = _
        unfold zeM
        rw [if_neg (by omega)]
      · cases h
    · cases h
  · replace h : exA 1 a c nx ls st M sh = some (.inl q) := h
    cases h
    rfl
  · replace h : exA 7 a c nx ls st M sh = some (.inl q) := h
    simp only [exA] at h
    split at h <;> cases h
    rfl
  · replace h : exE clO 83 a c nx ls st M sh = some (.inl q) := h
    simp only [exE] at h
    split at h
    · split at h <;> cases h
      rfl
    · cases h
  · cases hw
theorem stp_ag {b : Int} {y : Nat} (hy : y ≠ LAWN) : ∀ (n : Nat) {q q' : Nat × Lo × List AV × Mem × Sh} {M : Mem}, stp b y n q = some q' → Ag q.2.2.2.1 M → ∃ N : Mem, (∀ (m : Nat) (r : AV × Mem × Sh), run m y q'.1 q'.2.1 q'.2.2.1 N q'.2.2.2.2 = some r → run (n + m) y q.1 q.2.1 q.2.2.1 M q.2.2.2.2 = some r) ∧ Ag q'.2.2.2.1 N ∧ ∀ k : Int, k < b → N k = M k
  | 0, q, q', M, h, hA => by
    unfold stp at h
    cases h
    exact ⟨M, fun m r hr => by rw [Nat.zero_add]; exact hr, hA, fun _ _ => rfl⟩
  | n + 1, q, q', M, h, hA => by
    unfold stp at h
    split at h
    · cases h
    rename_i i hcd
    split at h
    · rename_i hw
      have hr := exStep_ag (sw := sws y q.1) (i := i) (ls := q.2.1) (st := q.2.2.1) (sh := q.2.2.2.2) hy hA
      split at h
      · rename_i q1 hx
        rw [hx] at hr
        unfold RelN at hr
        split at hr
        · rename_i q2 q3 e1 e2
          cases e1
          obtain ⟨h1, h2, h3, h4, h5, h6⟩ := hr
          obtain ⟨N, g1, g2, g3⟩ := stp_ag hy n h h5
          refine ⟨N, fun m r hm => ?_, g2, fun k hk => (g3 k hk).trans (okW_fr hw e2 k hk)⟩
          rw [Nat.add_right_comm]
          unfold run
          rw [hcd]
          dsimp only
          rw [e2]
          dsimp only
          rw [h1, h2, h3, h4]
          exact g1 m r hm
        · rename_i e1 e2; cases e1
        · rename_i e1; cases e1
        · exact hr.elim
      · cases h
    · cases h
def iniM1 : Mem := match ini1 with
  | some (_, M, _) => M
  | none => MZ
def ini2 : Option (Nat × Lo × List AV × Mem × Sh) := stp 204 176 192 (0, entL 176 [vR 204], [], zeM iniM1 204, SH.take 203 ++ [(12, 88)])
theorem ini_sh : (match ini1 with
  | some (_, M, sh) => decide (sh = SH.take 203) && fcT.all fun f => decide (204 ≤ f.1) || eqL (M f.1) f.2.1 f.2.2
  | none => false) = true := by decide +kernel
theorem ini_ok : (match ini2 with
  | some (pc, ls, st, M, sh) => decide (pc = 386) && decide (ls = [some (vR 204)]) && decide (st = []) && decide (sh = SH) && fcT.all fun f => decide (f.1 < 204) || eqL (M f.1) f.2.1 f.2.2
  | none => false) = true := by decide +kernel
theorem r_step {n y pc : Nat} {ls : Lo} {st : List AV} {M : Mem} {sh : Sh} {r : AV × Mem × Sh} {I : Ins} {q : Nat × Lo × List AV × Mem × Sh} (hcd : cd y pc = some I) (hex : exStep clO (sws y pc) y I ls st M sh = some (.inl q)) (h : run n y q.1 q.2.1 q.2.2.1 q.2.2.2.1 q.2.2.2.2 = some r) : run (n + 1) y pc ls st M sh = some r := by
  unfold run
  rw [hcd]
  dsimp only
  rw [hex]
  exact h
theorem r_call {n m y pc : Nat} {ls : Lo} {st : List AV} {M : Mem} {sh : Sh} {r r1 : AV × Mem × Sh} {I : Ins} {z nx : Nat} {as st' : List AV} (hcd : cd y pc = some I) (hex : exStep clO (sws y pc) y I ls st M sh = some (.inr (.inl (z, as, nx, st')))) (hlen : Nat.ble (padL as).length (mxL z) = true) (h1 : run m z 0 (entL z as) [] M sh = some r1) (h : run n y nx ls (pushR z r1.1 st') r1.2.1 r1.2.2 = some r) : run (max n m + 1) y pc ls st M sh = some r := by
  unfold run
  rw [hcd]
  dsimp only
  rw [hex]
  dsimp only
  rw [if_pos hlen, run_le (Nat.le_max_right n m) h1]
  exact run_le (Nat.le_max_left n m) h
theorem ini_have : ∃ (r : AV) (M : Mem), run 2100 143 0 (entL 143 [vR 1]) [] MZ [(11, 9)] = some (r, M, SH.take 203) ∧ iniM1 = M ∧ ∀ f ∈ fcT, f.1 < 204 → eqL (M f.1) f.2.1 f.2.2 = true := by
  have h := ini_sh
  split at h
  · rename_i r M sh e
    rw [Bool.and_eq_true] at h
    have h1 := of_decide_eq_true h.1
    subst h1
    refine ⟨r, M, e, ?_, fun f hf hl => ?_⟩
    · unfold iniM1
      rw [e]
    · have := List.all_eq_true.mp h.2 f hf
      rw [Bool.or_eq_true, decide_eq_true_eq] at this
      rcases this with h | h
      · omega
      · exact h
  · cases h
theorem ini_have2 : ∃ (M : Mem), ini2 = some (386, [some (vR 204)], [], M, SH) ∧ ∀ f ∈ fcT, 204 ≤ f.1 → eqL (M f.1) f.2.1 f.2.2 = true := by
  have h := ini_ok
  split at h
  · rename_i pc ls st M sh e
    simp only [Bool.and_eq_true, decide_eq_true_eq] at h
    obtain ⟨⟨⟨⟨rfl, rfl⟩, rfl⟩, rfl⟩, h⟩ := h
    refine ⟨M, e, fun f hf hl => ?_⟩
    have := List.all_eq_true.mp h f hf
    rw [Bool.or_eq_true, decide_eq_true_eq] at this
    rcases this with h | h
    · omega
    · exact h
  · cases h
theorem eqL_cong {f g : Int → Int} (hfg : ∀ j, f j = g j) : ∀ (l : List Int) (j : Int), eqL f j l = eqL g j l
  | [], _ => rfl
  | v :: l, j => by
    unfold eqL
    rw [hfg j, eqL_cong hfg l]
theorem law_begin {L : Nat} {xs : Nat → Int32} {Q : AV → Mem → Prop} (H : ∀ N : Mem, FcOk N → (∀ k : Int, k ≤ 0 → N k = M0 L xs k) → WR 176 386 [some (vR 204)] [] N (fun _ M' => WR LAWN 15 [some (vR (-2000)), some (vR 1), none, none] [vR 204] M' Q)) : ∃ (n : Nat) (r : AV) (M' : Mem), run n LAWN 0 (entL LAWN [vR (-2000)]) [] (M0 L xs) [] = some (r, M', SH) ∧ Q r M' := by
  obtain ⟨r1, Mc, hc, hMc, hf1⟩ := ini_have
  have hA : Ag MZ (zeM (M0 L xs) 1) := by
    intro k hk j
    show (0 : Int) = zeM (M0 L xs) 1 k j
    unfold zeM
    split
    · rfl
    · unfold M0
      rw [if_neg (by omega)]
  obtain ⟨N1, g1, g2, g3⟩ := run_ag 2100 (by decide) hA hc
  obtain ⟨M2c, e2, hf2⟩ := ini_have2
  have hA2 : Ag (zeM iniM1 204) (zeM N1 204) := by
    rw [hMc]
    exact g2.ze 204
  unfold ini2 at e2
  obtain ⟨N2, k1, k2, k3⟩ := stp_ag (y := 176) (by decide) 192 e2 hA2
  have hlow : ∀ k : Int, k < 204 → N2 k = N1 k := by
    intro k hk
    rw [k3 k hk]
    funext j
    show zeM N1 204 k j = _
    unfold zeM
    rw [if_neg (by omega)]
  have hneg : ∀ k : Int, k ≤ 0 → N2 k = M0 L xs k := by
    intro k hk
    rw [hlow k (by omega), g3 k hk]
    funext j
    unfold zeM
    rw [if_neg (by omega)]
  have hpos : ∀ f ∈ fcT, (0 : Int) < f.1 := by decide +kernel
  have hF : FcOk N2 := by
    intro f hf
    by_cases hl : f.1 < 204
    · rw [eqL_cong (g := Mc f.1) (fun j => by rw [hlow _ hl]; exact (g2 _ (hpos f hf) j).symm)]
      exact hf1 f hf hl
    · rw [eqL_cong (g := M2c f.1) (fun j => (k2 _ (hpos f hf) j).symm)]
      exact hf2 f hf (by omega)
  obtain ⟨n2, r2, M2, q1, n3, r3, M3, q2, hQ⟩ := H N2 hF hneg
  have hrun2 := k1 n2 _ q1
  refine ⟨_, r3, M3, r_step (I := (71, 11, 0, 3)) (q := (3, entL LAWN [vR (-2000)], [vR 1], zeM (M0 L xs) 1, [(11, 9)])) (by decide +kernel) rfl (r_step (I := (13, 0, 0, 4)) (q := (4, entL LAWN [vR (-2000)], [vR 1, vR 1], zeM (M0 L xs) 1, [(11, 9)])) (show cd LAWN 3 = some (13, 0, 0, 4) by decide +kernel) rfl (r_call (I := (81, 143, 0, 7)) (z := 143) (nx := 7) (as := [vR 1]) (st' := [vR 1]) (show cd LAWN 4 = some (81, 143, 0, 7) by decide +kernel) rfl rfl g1 (r_step (I := (10, 1, 0, 8)) (q := (8, [some (vR (-2000)), some (vR 1), none, none], [], N1, SH.take 203)) (show cd LAWN 7 = some (10, 1, 0, 8) by decide +kernel) rfl (r_step (I := (71, 12, 0, 11)) (q := (11, [some (vR (-2000)), some (vR 1), none, none], [vR 204], zeM N1 204, SH.take 203 ++ [(12, 88)])) (show cd LAWN 8 = some (71, 12, 0, 11) by decide +kernel) rfl (r_step (I := (13, 0, 0, 12)) (q := (12, [some (vR (-2000)), some (vR 1), none, none], [vR 204, vR 204], zeM N1 204, SH.take 203 ++ [(12, 88)])) (show cd LAWN 11 = some (13, 0, 0, 12) by decide +kernel) rfl (r_call (I := (81, 176, 0, 15)) (z := 176) (nx := 15) (as := [vR 204]) (st' := [vR 204]) (show cd LAWN 12 = some (81, 176, 0, 15) by decide +kernel) rfl rfl hrun2 q2)))))), hQ⟩
