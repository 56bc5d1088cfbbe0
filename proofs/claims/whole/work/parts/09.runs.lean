/-! RUNS: the small machine over the cells that stand behind the constructors (nothing is made any more): a row an instruction. -/
def SH : Sh := [(11, 9), (9, 7), (21, 900), (4, 5), (5, 3), (20, 12), (20, 11), (22, 6), (1, 10), (20, 12), (20, 12), (20, 12), (20, 12), (7, 3), (10, 3), (20, 13), (24, 8), (5, 3), (20, 12), (5, 3), (20, 12), (5, 3), (20, 12), (5, 3), (20, 12), (5, 3), (20, 12), (5, 3), (20, 12), (5, 3), (20, 12), (5, 3), (20, 12), (10, 3), (20, 13), (24, 8), (5, 3), (20, 12), (5, 3), (20, 12), (5, 3), (20, 12), (5, 3), (20, 12), (5, 3), (20, 12), (5, 3), (20, 12), (5, 3), (20, 12), (5, 3), (20, 12), (8, 5), (25, 3), (23, 240), (23, 240), (23, 240), (26, 3), (20, 240), (20, 240), (20, 240), (20, 3), (3, 3), (5, 3), (20, 12), (20, 13), (0, 5), (20, 12), (20, 12), (20, 12), (24, 12), (5, 3), (20, 12), (5, 3), (20, 12), (5, 3), (20, 12), (5, 3), (20, 12), (5, 3), (20, 12), (5, 3), (20, 12), (5, 3), (20, 12), (5, 3), (20, 12), (5, 3), (20, 12), (5, 3), (20, 12), (5, 3), (20, 12), (5, 3), (20, 12), (2, 18), (6, 7), (20, 16), (20, 16), (22, 16), (20, 13), (20, 16), (20, 16), (10, 3), (20, 13), (24, 20), (5, 3), (20, 12), (5, 3), (20, 12), (5, 3), (20, 12), (5, 3), (20, 12), (5, 3), (20, 12), (5, 3), (20, 12), (5, 3), (20, 12), (5, 3), (20, 12), (5, 3), (20, 12), (5, 3), (20, 12), (5, 3), (20, 12), (5, 3), (20, 12), (5, 3), (20, 12), (5, 3), (20, 12), (5, 3), (20, 12), (5, 3), (20, 12), (5, 3), (20, 12), (5, 3), (20, 12), (5, 3), (20, 12), (5, 3), (20, 12), (23, 12), (20, 6), (20, 6), (2, 18), (6, 7), (20, 16), (20, 16), (22, 16), (20, 13), (20, 16), (20, 16), (10, 3), (20, 13), (24, 20), (5, 3), (20, 12), (5, 3), (20, 12), (5, 3), (20, 12), (5, 3), (20, 12), (5, 3), (20, 12), (5, 3), (20, 12), (5, 3), (20, 12), (5, 3), (20, 12), (5, 3), (20, 12), (5, 3), (20, 12), (5, 3), (20, 12), (5, 3), (20, 12), (5, 3), (20, 12), (5, 3), (20, 12), (5, 3), (20, 12), (5, 3), (20, 12), (5, 3), (20, 12), (5, 3), (20, 12), (5, 3), (20, 12), (5, 3), (20, 12), (23, 12), (20, 6), (20, 6), (12, 88), (20, 900), (20, 12), (20, 26), (20, 16), (20, 16), (20, 16), (20, 48), (20, 12), (20, 12), (20, 240), (20, 20), (20, 6), (20, 4), (20, 26), (20, 16), (20, 16), (20, 16), (20, 48), (20, 12), (20, 12), (20, 4), (20, 96), (20, 8), (20, 96), (20, 8), (20, 267), (20, 3204), (20, 12), (20, 12), (20, 12), (20, 12), (20, 12), (20, 4), (20, 12), (20, 12), (20, 13), (20, 13), (20, 13), (23, 16), (23, 16), (20, 3), (20, 720), (20, 720), (20, 720), (20, 720), (20, 100)]
theorem run_up : ∀ (n : Nat) {y pc : Nat} {ls : Lo} {st : List AV} {M : Mem} {sh : Sh} {r : AV × Mem × Sh}, run n y pc ls st M sh = some r → run (n + 1) y pc ls st M sh = some r
  | 0, _, _, _, _, _, _, _, h => nomatch h
  | n + 1, y, pc, ls, st, M, sh, r, h => by
    unfold run at h ⊢
    split at h
    · cases h
    · rename_i i hi
      split at h
      · cases h
      · exact run_up n h
      · rename_i q hq
        split at h
        · rename_i hl
          rw [if_pos hl]
          split at h
          · cases h
          · rename_i r1 h1
            rw [run_up n h1]
            exact run_up n h
        · cases h
      · exact h
theorem run_le {n m : Nat} (hnm : n ≤ m) {y pc : Nat} {ls : Lo} {st : List AV} {M : Mem} {sh : Sh} {r : AV × Mem × Sh} (h : run n y pc ls st M sh = some r) : run m y pc ls st M sh = some r := by
  induction hnm with
  | refl => exact h
  | step _ ih => exact run_up _ ih
theorem run_det {n m : Nat} {y pc : Nat} {ls : Lo} {st : List AV} {M : Mem} {sh : Sh} {r r' : AV × Mem × Sh} (h : run n y pc ls st M sh = some r) (h' : run m y pc ls st M sh = some r') : r = r' := by
  have h1 := run_le (Nat.le_max_left n m) h
  have h2 := run_le (Nat.le_max_right n m) h'
  rw [h1] at h2
  exact Option.some.inj h2
/-- from here the machine comes to an end with Q -/
def WR (y pc : Nat) (ls : Lo) (st : List AV) (M : Mem) (Q : AV → Mem → Prop) : Prop := ∃ (n : Nat) (r : AV) (M' : Mem), run n y pc ls st M SH = some (r, M', SH) ∧ Q r M'
def WC (z : Nat) (as : List AV) (M : Mem) (Q : AV → Mem → Prop) : Prop := WR z 0 (entL z as) [] M Q
def WI (z : Nat) (as : List AV) (M : Mem) (Q : Int → Mem → Prop) : Prop := WC z as M fun r M' => ∃ x, r = vI x ∧ Q x M'
def WL (z : Nat) (as : List AV) (M : Mem) (Q : Int → Mem → Prop) : Prop := WC z as M fun r M' => ∃ x, r = vL x ∧ Q x M'
def WF (z : Nat) (as : List AV) (M : Mem) (Q : Int → Mem → Prop) : Prop := WC z as M fun r M' => ∃ x, r = vR x ∧ Q x M'
def WV (z : Nat) (as : List AV) (M : Mem) (Q : Mem → Prop) : Prop := WC z as M fun _ M' => Q M'
/-- a call answers v and leaves M' -/
def FN (z : Nat) (as : List AV) (M : Mem) (v : AV) (M' : Mem) : Prop := ∃ n, run n z 0 (entL z as) [] M SH = some (v, M', SH)
theorem WR.mono {y pc : Nat} {ls : Lo} {st : List AV} {M : Mem} {Q Q' : AV → Mem → Prop} (h : WR y pc ls st M Q) (hQ : ∀ r M', Q r M' → Q' r M') : WR y pc ls st M Q' := by
  obtain ⟨n, r, M', h1, h2⟩ := h
  exact ⟨n, r, M', h1, hQ r M' h2⟩
theorem WI.mono {z : Nat} {as : List AV} {M : Mem} {Q Q' : Int → Mem → Prop} (h : WI z as M Q) (hQ : ∀ x M', Q x M' → Q' x M') : WI z as M Q' := WR.mono h fun r M' ⟨x, e, q⟩ => ⟨x, e, hQ x M' q⟩
theorem WL.mono {z : Nat} {as : List AV} {M : Mem} {Q Q' : Int → Mem → Prop} (h : WL z as M Q) (hQ : ∀ x M', Q x M' → Q' x M') : WL z as M Q' := WR.mono h fun r M' ⟨x, e, q⟩ => ⟨x, e, hQ x M' q⟩
theorem WF.mono {z : Nat} {as : List AV} {M : Mem} {Q Q' : Int → Mem → Prop} (h : WF z as M Q) (hQ : ∀ x M', Q x M' → Q' x M') : WF z as M Q' := WR.mono h fun r M' ⟨x, e, q⟩ => ⟨x, e, hQ x M' q⟩
theorem WV.mono {z : Nat} {as : List AV} {M : Mem} {Q Q' : Mem → Prop} (h : WV z as M Q) (hQ : ∀ M', Q M' → Q' M') : WV z as M Q' := WR.mono h fun r M' q => hQ M' q
theorem FN.wc {z : Nat} {as : List AV} {M : Mem} {v : AV} {M' : Mem} {Q : AV → Mem → Prop} (h : FN z as M v M') : WC z as M Q = Q v M' := by
  obtain ⟨n, h⟩ := h
  apply propext
  constructor
  · rintro ⟨m, r, M2, h1, h2⟩
    have := run_det h h1
    cases this
    exact h2
  · intro q
    exact ⟨n, v, M', h, q⟩
theorem FN.wi {z : Nat} {as : List AV} {M : Mem} {v : Int} {M' : Mem} {Q : Int → Mem → Prop} (h : FN z as M (vI v) M') : WI z as M Q = Q v M' := by
  unfold WI
  rw [h.wc]
  exact propext ⟨fun ⟨x, e, q⟩ => by cases e; exact q, fun q => ⟨v, rfl, q⟩⟩
theorem FN.wl {z : Nat} {as : List AV} {M : Mem} {v : Int} {M' : Mem} {Q : Int → Mem → Prop} (h : FN z as M (vL v) M') : WL z as M Q = Q v M' := by
  unfold WL
  rw [h.wc]
  exact propext ⟨fun ⟨x, e, q⟩ => by cases e; exact q, fun q => ⟨v, rfl, q⟩⟩
theorem FN.wf {z : Nat} {as : List AV} {M : Mem} {v : Int} {M' : Mem} {Q : Int → Mem → Prop} (h : FN z as M (vR v) M') : WF z as M Q = Q v M' := by
  unfold WF
  rw [h.wc]
  exact propext ⟨fun ⟨x, e, q⟩ => by cases e; exact q, fun q => ⟨v, rfl, q⟩⟩
theorem FN.wv {z : Nat} {as : List AV} {M : Mem} {v : AV} {M' : Mem} {Q : Mem → Prop} (h : FN z as M v M') : WV z as M Q = Q M' := by
  unfold WV
  rw [h.wc]
theorem WC.fn {z : Nat} {as : List AV} {M : Mem} {v : AV} {M' : Mem} (h : WC z as M fun r M2 => r = v ∧ M2 = M') : FN z as M v M' := by
  obtain ⟨n, r, M2, h1, rfl, rfl⟩ := h
  exact ⟨n, h1⟩
theorem WC.ex {z : Nat} {as : List AV} {M : Mem} {Q : AV → Mem → Prop} (h : WC z as M Q) : ∃ v M', FN z as M v M' ∧ Q v M' := by
  obtain ⟨n, r, M2, h1, h2⟩ := h
  exact ⟨r, M2, ⟨n, h1⟩, h2⟩
section G
variable {y pc nx : Nat} {a b : Int} {ls ls' : Lo} {st : List AV} {M : Mem} {Q : AV → Mem → Prop} {x x1 x2 k i v : Int}
theorem g_step {I : Ins} {q : Nat × Lo × List AV × Mem × Sh} (hcd : cd y pc = some I) (hex : exStep clO (sws y pc) y I ls st M SH = some (.inl q)) (hq : q.2.2.2.2 = SH) (k : WR y q.1 q.2.1 q.2.2.1 q.2.2.2.1 Q) : WR y pc ls st M Q := by
  obtain ⟨n, r, M', h1, h2⟩ := k
  refine ⟨n + 1, r, M', ?_, h2⟩
  unfold run
  rw [hcd]
  dsimp only
  rw [hex]
  dsimp only
  rw [hq]
  exact h1
theorem g_ret {I : Ins} {w : AV} (hcd : cd y pc = some I) (hex : exStep clO (sws y pc) y I ls st M SH = some (.inr (.inr w))) (k : Q w M) : WR y pc ls st M Q := by
  refine ⟨1, w, M, ?_, k⟩
  unfold run
  rw [hcd]
  dsimp only
  rw [hex]
theorem g_call {I : Ins} {z : Nat} {as : List AV} {st' : List AV} (hcd : cd y pc = some I) (hex : exStep clO (sws y pc) y I ls st M SH = some (.inr (.inl (z, as, nx, st')))) (hlen : Nat.ble (padL as).length (mxL z) = true) (k : WC z as M fun r M' => WR y nx ls (pushR z r st') M' Q) : WR y pc ls st M Q := by
  obtain ⟨n, r, M', h1, m, r2, M2, h3, h4⟩ := k
  refine ⟨max n m + 1, r2, M2, ?_, h4⟩
  unfold run
  rw [hcd]
  dsimp only
  rw [hex]
  dsimp only
  rw [if_pos hlen, run_le (Nat.le_max_left n m) h1]
  exact run_le (Nat.le_max_right n m) h3
/-- an object of a kind; a place of a row -/
def gO (c : Nat) (k : Int) : Prop := 0 < k ∧ (shA SH k).1 = c
def gA (t : Nat) (k i : Int) : Prop := (shA SH k).1 = t ∧ 0 ≤ i ∧ i < (shA SH k).2
theorem g_1 (hcd : cd y pc = some (1, a, b, nx)) (k : WR y nx ls (vI a :: st) M Q) : WR y pc ls st M Q := g_step hcd rfl rfl k
theorem g_2 (hcd : cd y pc = some (2, a, b, nx)) (k : WR y nx ls (vL a :: st) M Q) : WR y pc ls st M Q := g_step hcd rfl rfl k
theorem g_3 (hcd : cd y pc = some (3, a, b, nx)) (k : WR y nx ls (vR 0 :: st) M Q) : WR y pc ls st M Q := g_step hcd rfl rfl k
theorem g_4 (hcd : cd y pc = some (4, a, b, nx)) (k : WR y nx ls (vR a :: st) M Q) : WR y pc ls st M Q := g_step hcd rfl rfl k
theorem g_49 (hcd : cd y pc = some (49, a, b, nx)) (k : WR y nx ls (vR (-1000) :: st) M Q) : WR y pc ls st M Q := g_step hcd rfl rfl k
theorem g_58 (hcd : cd y pc = some (58, a, b, nx)) (k : WR y nx ls (vL a :: st) M Q) : WR y pc ls st M Q := g_step hcd rfl rfl k
theorem g_59 (hcd : cd y pc = some (59, a, b, nx)) (k : WR y nx ls (vI a :: st) M Q) : WR y pc ls st M Q := g_step hcd rfl rfl k
theorem g_44 (hcd : cd y pc = some (44, a, b, nx)) (k : WR y b.toNat ls st M Q) : WR y pc ls st M Q := g_step hcd rfl rfl k
theorem g_5 (hcd : cd y pc = some (5, a, b, nx)) (hl : ls[a.toNat]? = some (some (vI x))) (k : WR y nx ls (vI x :: st) M Q) : WR y pc ls st M Q :=
  g_step (q := (nx, ls, vI x :: st, M, SH)) hcd (by show (match ls[a.toNat]? with | some (some (.inl x)) => goN nx ls (vI x :: st) M SH | _ => none) = _; rw [hl]; rfl) rfl k
theorem g_6 (hcd : cd y pc = some (6, a, b, nx)) (hl : ls[a.toNat]? = some (some (vL x))) (k : WR y nx ls (vL x :: st) M Q) : WR y pc ls st M Q :=
  g_step (q := (nx, ls, vL x :: st, M, SH)) hcd (by show (match ls[a.toNat]? with | some (some (.inr (.inl x))) => goN nx ls (vL x :: st) M SH | _ => none) = _; rw [hl]; rfl) rfl k
theorem g_7 (hcd : cd y pc = some (7, a, b, nx)) (hl : ls[a.toNat]? = some (some (vR x))) (k : WR y nx ls (vR x :: st) M Q) : WR y pc ls st M Q :=
  g_step (q := (nx, ls, vR x :: st, M, SH)) hcd (by show (match ls[a.toNat]? with | some (some (.inr (.inr x))) => goN nx ls (vR x :: st) M SH | _ => none) = _; rw [hl]; rfl) rfl k
theorem g_8 (hcd : cd y pc = some (8, a, b, nx)) (hk : okS a.toNat ls = true) (hs : ls.set a.toNat (some (vI x)) = ls') (k : WR y nx ls' st M Q) : WR y pc ls (vI x :: st) M Q :=
  g_step (q := (nx, ls', st, M, SH)) hcd (by show (if okS a.toNat ls = true then _ else _) = _; rw [if_pos hk, hs]; rfl) rfl k
theorem g_9 (hcd : cd y pc = some (9, a, b, nx)) (hk : okS a.toNat ls = true ∧ a.toNat + 1 < ls.length) (hs : (ls.set a.toNat (some (vL x))).set (a.toNat + 1) none = ls') (k : WR y nx ls' st M Q) : WR y pc ls (vL x :: st) M Q :=
  g_step (q := (nx, ls', st, M, SH)) hcd (by show (if okS a.toNat ls = true ∧ a.toNat + 1 < ls.length then _ else _) = _; rw [if_pos hk, hs]; rfl) rfl k
theorem g_10 (hcd : cd y pc = some (10, a, b, nx)) (hk : okS a.toNat ls = true) (hs : ls.set a.toNat (some (vR x)) = ls') (k : WR y nx ls' st M Q) : WR y pc ls (vR x :: st) M Q :=
  g_step (q := (nx, ls', st, M, SH)) hcd (by show (if okS a.toNat ls = true then _ else _) = _; rw [if_pos hk, hs]; rfl) rfl k
theorem g_11 (hcd : cd y pc = some (11, a, b, nx)) (hl : ls[a.toNat]? = some (some (vI x))) (hk : okS a.toNat ls = true) (hs : ls.set a.toNat (some (vI (x + b))) = ls') (k : WR y nx ls' st M Q) : WR y pc ls st M Q :=
  g_step (q := (nx, ls', st, M, SH)) hcd (by
    show (match ls[a.toNat]? with | some (some (.inl x)) => if okS a.toNat ls = true then goN nx (ls.set a.toNat (some (vI (x + b)))) st M SH else none | _ => none) = _
    rw [hl]
    show (if okS a.toNat ls = true then _ else _) = _
    rw [if_pos hk, hs]
    rfl) rfl k
theorem g_12 {w : AV} (hcd : cd y pc = some (12, a, b, nx)) (hw : isW w = false) (k : WR y nx ls st M Q) : WR y pc ls (w :: st) M Q :=
  g_step (q := (nx, ls, st, M, SH)) hcd (by show (if isW w = false then _ else _) = _; rw [if_pos hw]; rfl) rfl k
theorem g_13 {w : AV} (hcd : cd y pc = some (13, a, b, nx)) (hw : isW w = false) (k : WR y nx ls (w :: w :: st) M Q) : WR y pc ls (w :: st) M Q :=
  g_step (q := (nx, ls, w :: w :: st, M, SH)) hcd (by show (if isW w = false then _ else _) = _; rw [if_pos hw]; rfl) rfl k
theorem g_14 {u w : AV} (hcd : cd y pc = some (14, a, b, nx)) (hu : isW u = false) (hw : isW w = false) (k : WR y nx ls (u :: w :: u :: w :: st) M Q) : WR y pc ls (u :: w :: st) M Q :=
  g_step (q := (nx, ls, u :: w :: u :: w :: st, M, SH)) hcd (by show (if isW u = false ∧ isW w = false then _ else _) = _; rw [if_pos ⟨hu, hw⟩]; rfl) rfl k

theorem g_15 (hcd : cd y pc = some (15, a, b, nx)) (k : WR y nx ls (vI (x1 + x2) :: st) M Q) : WR y pc ls (vI x2 :: vI x1 :: st) M Q := g_step hcd rfl rfl k
theorem g_16 (hcd : cd y pc = some (16, a, b, nx)) (k : WR y nx ls (vI (x1 - x2) :: st) M Q) : WR y pc ls (vI x2 :: vI x1 :: st) M Q := g_step hcd rfl rfl k
theorem g_17 (hcd : cd y pc = some (17, a, b, nx)) (k : WR y nx ls (vI (x1 * x2) :: st) M Q) : WR y pc ls (vI x2 :: vI x1 :: st) M Q := g_step hcd rfl rfl k
theorem g_20 (hcd : cd y pc = some (20, a, b, nx)) (k : WR y nx ls (vI (and32 x1 x2) :: st) M Q) : WR y pc ls (vI x2 :: vI x1 :: st) M Q := g_step hcd rfl rfl k
theorem g_21 (hcd : cd y pc = some (21, a, b, nx)) (k : WR y nx ls (vI (or32 x1 x2) :: st) M Q) : WR y pc ls (vI x2 :: vI x1 :: st) M Q := g_step hcd rfl rfl k
theorem g_25 (hcd : cd y pc = some (25, a, b, nx)) (k : WR y nx ls (vL (x1 + x2) :: st) M Q) : WR y pc ls (vL x2 :: vL x1 :: st) M Q := g_step hcd rfl rfl k
theorem g_26 (hcd : cd y pc = some (26, a, b, nx)) (k : WR y nx ls (vL (x1 - x2) :: st) M Q) : WR y pc ls (vL x2 :: vL x1 :: st) M Q := g_step hcd rfl rfl k
theorem g_27 (hcd : cd y pc = some (27, a, b, nx)) (k : WR y nx ls (vL (x1 * x2) :: st) M Q) : WR y pc ls (vL x2 :: vL x1 :: st) M Q := g_step hcd rfl rfl k
theorem g_30 (hcd : cd y pc = some (30, a, b, nx)) (k : WR y nx ls (vL (and64 x1 x2) :: st) M Q) : WR y pc ls (vL x2 :: vL x1 :: st) M Q := g_step hcd rfl rfl k
theorem g_31 (hcd : cd y pc = some (31, a, b, nx)) (k : WR y nx ls (vL (or64 x1 x2) :: st) M Q) : WR y pc ls (vL x2 :: vL x1 :: st) M Q := g_step hcd rfl rfl k
theorem g_19 (hcd : cd y pc = some (19, a, b, nx)) (hg : 0 < x2 ∧ -2147483648 ≤ x1 ∧ x1 < 2147483648 ∧ x2 < 2147483648) (k : WR y nx ls (vI (x1.tmod x2) :: st) M Q) : WR y pc ls (vI x2 :: vI x1 :: st) M Q :=
  g_step (q := (nx, ls, vI (x1.tmod x2) :: st, M, SH)) hcd (by show (if 0 < x2 ∧ -2147483648 ≤ x1 ∧ x1 < 2147483648 ∧ x2 < 2147483648 then some (vI (x1.tmod x2)) else none).bind (fun w => goN nx ls (w :: st) M SH) = _; rw [if_pos hg]; rfl) rfl k
theorem g_22 (hcd : cd y pc = some (22, a, b, nx)) (hg : 0 ≤ x2 ∧ x2 < 32) (k : WR y nx ls (vI (x1 * 2 ^ x2.toNat) :: st) M Q) : WR y pc ls (vI x2 :: vI x1 :: st) M Q :=
  g_step (q := (nx, ls, vI (x1 * 2 ^ x2.toNat) :: st, M, SH)) hcd (by show (if 0 ≤ x2 ∧ x2 < 32 then some (vI (x1 * 2 ^ x2.toNat)) else none).bind (fun w => goN nx ls (w :: st) M SH) = _; rw [if_pos hg]; rfl) rfl k
theorem g_23 (hcd : cd y pc = some (23, a, b, nx)) (hg : 0 ≤ x2 ∧ x2 < 32 ∧ -2147483648 ≤ x1 ∧ x1 < 2147483648) (k : WR y nx ls (vI (x1 / 2 ^ x2.toNat) :: st) M Q) : WR y pc ls (vI x2 :: vI x1 :: st) M Q :=
  g_step (q := (nx, ls, vI (x1 / 2 ^ x2.toNat) :: st, M, SH)) hcd (by show (if 0 ≤ x2 ∧ x2 < 32 ∧ -2147483648 ≤ x1 ∧ x1 < 2147483648 then some (vI (x1 / 2 ^ x2.toNat)) else none).bind (fun w => goN nx ls (w :: st) M SH) = _; rw [if_pos hg]; rfl) rfl k
theorem g_24 (hcd : cd y pc = some (24, a, b, nx)) (hg : 0 ≤ x2 ∧ x2 < 32) (k : WR y nx ls (vI (x1 % 4294967296 / 2 ^ x2.toNat) :: st) M Q) : WR y pc ls (vI x2 :: vI x1 :: st) M Q :=
  g_step (q := (nx, ls, vI (x1 % 4294967296 / 2 ^ x2.toNat) :: st, M, SH)) hcd (by show (if 0 ≤ x2 ∧ x2 < 32 then some (vI (x1 % 4294967296 / 2 ^ x2.toNat)) else none).bind (fun w => goN nx ls (w :: st) M SH) = _; rw [if_pos hg]; rfl) rfl k
theorem g_28 (hcd : cd y pc = some (28, a, b, nx)) (hg : 0 ≤ x1 ∧ x1 < 9223372036854775808 ∧ 0 < x2 ∧ x2 < 9223372036854775808) (k : WR y nx ls (vL (x1 / x2) :: st) M Q) : WR y pc ls (vL x2 :: vL x1 :: st) M Q :=
  g_step (q := (nx, ls, vL (x1 / x2) :: st, M, SH)) hcd (by show (if 0 ≤ x1 ∧ x1 < 9223372036854775808 ∧ 0 < x2 ∧ x2 < 9223372036854775808 then some (vL (x1 / x2)) else none).bind (fun w => goN nx ls (w :: st) M SH) = _; rw [if_pos hg]; rfl) rfl k
theorem g_29 (hcd : cd y pc = some (29, a, b, nx)) (hg : 0 ≤ x1 ∧ x1 < 9223372036854775808 ∧ 0 < x2 ∧ x2 < 9223372036854775808) (k : WR y nx ls (vL (x1 % x2) :: st) M Q) : WR y pc ls (vL x2 :: vL x1 :: st) M Q :=
  g_step (q := (nx, ls, vL (x1 % x2) :: st, M, SH)) hcd (by show (if 0 ≤ x1 ∧ x1 < 9223372036854775808 ∧ 0 < x2 ∧ x2 < 9223372036854775808 then some (vL (x1 % x2)) else none).bind (fun w => goN nx ls (w :: st) M SH) = _; rw [if_pos hg]; rfl) rfl k
theorem g_32 (hcd : cd y pc = some (32, a, b, nx)) (hg : 0 ≤ x2 ∧ x2 < 64) (k : WR y nx ls (vL (x1 * 2 ^ x2.toNat) :: st) M Q) : WR y pc ls (vI x2 :: vL x1 :: st) M Q :=
  g_step (q := (nx, ls, vL (x1 * 2 ^ x2.toNat) :: st, M, SH)) hcd (by show (if 0 ≤ x2 ∧ x2 < 64 then some (vL (x1 * 2 ^ x2.toNat)) else none).bind (fun w => goN nx ls (w :: st) M SH) = _; rw [if_pos hg]; rfl) rfl k
theorem g_33 (hcd : cd y pc = some (33, a, b, nx)) (hg : 0 ≤ x2 ∧ x2 < 64) (k : WR y nx ls (vL (x1 % 18446744073709551616 / 2 ^ x2.toNat) :: st) M Q) : WR y pc ls (vI x2 :: vL x1 :: st) M Q :=
  g_step (q := (nx, ls, vL (x1 % 18446744073709551616 / 2 ^ x2.toNat) :: st, M, SH)) hcd (by show (if 0 ≤ x2 ∧ x2 < 64 then some (vL (x1 % 18446744073709551616 / 2 ^ x2.toNat)) else none).bind (fun w => goN nx ls (w :: st) M SH) = _; rw [if_pos hg]; rfl) rfl k
theorem g_34 (hcd : cd y pc = some (34, a, b, nx)) (hg : in64 x1 ∧ in64 x2) (k : WR y nx ls (vI (if x1 < x2 then -1 else if x1 = x2 then 0 else 1) :: st) M Q) : WR y pc ls (vL x2 :: vL x1 :: st) M Q :=
  g_step (q := (nx, ls, vI (if x1 < x2 then -1 else if x1 = x2 then 0 else 1) :: st, M, SH)) hcd (by show (if in64 x1 ∧ in64 x2 then some (vI (if x1 < x2 then -1 else if x1 = x2 then 0 else 1)) else none).bind (fun w => goN nx ls (w :: st) M SH) = _; rw [if_pos hg]; rfl) rfl k
theorem g_18 (hcd : cd y pc = some (18, a, b, nx)) (k : WR y nx ls (vI (-x) :: st) M Q) : WR y pc ls (vI x :: st) M Q := g_step hcd rfl rfl k
theorem g_35 (hcd : cd y pc = some (35, a, b, nx)) (k : WR y nx ls (vL (wr32 x) :: st) M Q) : WR y pc ls (vI x :: st) M Q := g_step hcd rfl rfl k
theorem g_36 (hcd : cd y pc = some (36, a, b, nx)) (k : WR y nx ls (vI (x) :: st) M Q) : WR y pc ls (vL x :: st) M Q := g_step hcd rfl rfl k
theorem g_37 (hcd : cd y pc = some (37, a, b, nx)) (k : WR y nx ls (vI ((x + 128) % 256 - 128) :: st) M Q) : WR y pc ls (vI x :: st) M Q := g_step hcd rfl rfl k
theorem g_38 (hcd : cd y pc = some (38, a, b, nx)) (k : WR y nx ls (vI (x % 65536) :: st) M Q) : WR y pc ls (vI x :: st) M Q := g_step hcd rfl rfl k
theorem wr_id {x : Int} (h : inR x) : wr32 x = x := n_toI h.1 h.2
theorem g_40t (hcd : cd y pc = some (40, a, b, nx)) (hr : inR x) (hc : cmpB a x 0 = true) (k : WR y b.toNat ls st M Q) : WR y pc ls (vI x :: st) M Q :=
  g_step (q := (b.toNat, ls, st, M, SH)) hcd (by show (if inR x then goN (if cmpB a x 0 = true then b.toNat else nx) ls st M SH else none) = _; rw [if_pos hr, if_pos hc]; rfl) rfl k
theorem g_40f (hcd : cd y pc = some (40, a, b, nx)) (hr : inR x) (hc : ¬ cmpB a x 0 = true) (k : WR y nx ls st M Q) : WR y pc ls (vI x :: st) M Q :=
  g_step (q := (nx, ls, st, M, SH)) hcd (by show (if inR x then goN (if cmpB a x 0 = true then b.toNat else nx) ls st M SH else none) = _; rw [if_pos hr, if_neg hc]; rfl) rfl k
theorem ex41 : exStep clO (sws y pc) y (41, a, b, nx) ls (vI x2 :: vI x1 :: st) M SH = some (.inl ((if cmpB a (wr32 x1) (wr32 x2) = true then b.toNat else nx), ls, st, M, SH)) := by
  show (if inR x1 ∧ inR x2 then goN (if cmpB a x1 x2 = true then b.toNat else nx) ls st M SH else goN (if cmpB a (wr32 x1) (wr32 x2) = true then b.toNat else nx) ls st M SH) = _
  split
  · rename_i h
    rw [wr_id h.1, wr_id h.2]
    rfl
  · rfl
theorem g_41t (hcd : cd y pc = some (41, a, b, nx)) (hc : cmpB a (wr32 x1) (wr32 x2) = true) (k : WR y b.toNat ls st M Q) : WR y pc ls (vI x2 :: vI x1 :: st) M Q :=
  g_step hcd ex41 rfl (by dsimp only; rw [if_pos hc]; exact k)
theorem g_41f (hcd : cd y pc = some (41, a, b, nx)) (hc : ¬ cmpB a (wr32 x1) (wr32 x2) = true) (k : WR y nx ls st M Q) : WR y pc ls (vI x2 :: vI x1 :: st) M Q :=
  g_step hcd ex41 rfl (by dsimp only; rw [if_neg hc]; exact k)
theorem g_42t (hcd : cd y pc = some (42, a, b, nx)) (hc : x = 0) (k : WR y b.toNat ls st M Q) : WR y pc ls (vR x :: st) M Q :=
  g_step (q := (b.toNat, ls, st, M, SH)) hcd (by show (if x ≠ -1000 then goN (if x = 0 then b.toNat else nx) ls st M SH else none) = _; rw [if_pos (by omega), if_pos hc]; rfl) rfl k
theorem g_42f (hcd : cd y pc = some (42, a, b, nx)) (hr : x ≠ -1000) (hc : ¬ x = 0) (k : WR y nx ls st M Q) : WR y pc ls (vR x :: st) M Q :=
  g_step (q := (nx, ls, st, M, SH)) hcd (by show (if x ≠ -1000 then goN (if x = 0 then b.toNat else nx) ls st M SH else none) = _; rw [if_pos hr, if_neg hc]; rfl) rfl k
theorem g_43t (hcd : cd y pc = some (43, a, b, nx)) (hc : x = 0) (k : WR y nx ls st M Q) : WR y pc ls (vR x :: st) M Q :=
  g_step (q := (nx, ls, st, M, SH)) hcd (by show (if x ≠ -1000 then goN (if x = 0 then nx else b.toNat) ls st M SH else none) = _; rw [if_pos (by omega), if_pos hc]; rfl) rfl k
theorem g_43f (hcd : cd y pc = some (43, a, b, nx)) (hr : x ≠ -1000) (hc : ¬ x = 0) (k : WR y b.toNat ls st M Q) : WR y pc ls (vR x :: st) M Q :=
  g_step (q := (b.toNat, ls, st, M, SH)) hcd (by show (if x ≠ -1000 then goN (if x = 0 then nx else b.toNat) ls st M SH else none) = _; rw [if_pos hr, if_neg hc]; rfl) rfl k
theorem g_45 (hcd : cd y pc = some (45, a, b, nx)) (hr : inR x) {t : Nat} (ht : swL x b.toNat (sws y pc) = t) (k : WR y t ls st M Q) : WR y pc ls (vI x :: st) M Q :=
  g_step (q := (t, ls, st, M, SH)) hcd (by show (if inR x then goN (swL x b.toNat (sws y pc)) ls st M SH else none) = _; rw [if_pos hr, ht]; rfl) rfl k

theorem g_50 (hcd : cd y pc = some (50, a, b, nx)) (hg : gO a.toNat k) (kk : WR y nx ls (vI (M k b) :: st) M Q) : WR y pc ls (vR k :: st) M Q :=
  g_step (q := (nx, ls, vI (M k b) :: st, M, SH)) hcd (by show (if 0 < k ∧ (shA SH k).1 = a.toNat then _ else _) = _; exact if_pos hg) rfl kk
theorem g_51 (hcd : cd y pc = some (51, a, b, nx)) (hg : gO a.toNat k) (kk : WR y nx ls (vL (M k b) :: st) M Q) : WR y pc ls (vR k :: st) M Q :=
  g_step (q := (nx, ls, vL (M k b) :: st, M, SH)) hcd (by show (if 0 < k ∧ (shA SH k).1 = a.toNat then _ else _) = _; exact if_pos hg) rfl kk
theorem g_52 (hcd : cd y pc = some (52, a, b, nx)) (hg : gO a.toNat k) (kk : WR y nx ls (vR (M k b) :: st) M Q) : WR y pc ls (vR k :: st) M Q :=
  g_step (q := (nx, ls, vR (M k b) :: st, M, SH)) hcd (by show (if 0 < k ∧ (shA SH k).1 = a.toNat then _ else _) = _; exact if_pos hg) rfl kk
theorem g_53 (hcd : cd y pc = some (53, a, b, nx)) (hg : gO a.toNat k) (kk : WR y nx ls st (upM M k b v) Q) : WR y pc ls (vI v :: vR k :: st) M Q :=
  g_step (q := (nx, ls, st, upM M k b v, SH)) hcd (by show (if 0 < k ∧ (shA SH k).1 = a.toNat then _ else _) = _; exact if_pos hg) rfl kk
theorem g_54 (hcd : cd y pc = some (54, a, b, nx)) (hg : gO a.toNat k) (kk : WR y nx ls st (upM M k b v) Q) : WR y pc ls (vL v :: vR k :: st) M Q :=
  g_step (q := (nx, ls, st, upM M k b v, SH)) hcd (by show (if 0 < k ∧ (shA SH k).1 = a.toNat then _ else _) = _; exact if_pos hg) rfl kk
theorem g_55 (hcd : cd y pc = some (55, a, b, nx)) (hg : gO a.toNat k) (hv : 0 ≤ v) (kk : WR y nx ls st (upM M k b v) Q) : WR y pc ls (vR v :: vR k :: st) M Q :=
  g_step (q := (nx, ls, st, upM M k b v, SH)) hcd (by show (if 0 < k ∧ (shA SH k).1 = a.toNat ∧ 0 ≤ v then _ else _) = _; rw [if_pos ⟨hg.1, hg.2, hv⟩]; rfl) rfl kk
theorem g_56 (hcd : cd y pc = some (56, a, b, nx)) (hg : gO a.toNat k) (hv : v = 0 ∨ v = 1) (kk : WR y nx ls st (upM M k b v) Q) : WR y pc ls (vI v :: vR k :: st) M Q :=
  g_step (q := (nx, ls, st, upM M k b v, SH)) hcd (by show (if 0 < k ∧ (shA SH k).1 = a.toNat ∧ (v = 0 ∨ v = 1) then _ else _) = _; rw [if_pos ⟨hg.1, hg.2, hv⟩]; rfl) rfl kk
theorem g_57a (hcd : cd y pc = some (57, 0, b, nx)) (hg : (shA SH k).1 = 40) (kk : WR y nx ls (vR (k - 100) :: st) M Q) : WR y pc ls (vR k :: st) M Q :=
  g_step (q := (nx, ls, vR (k - 100) :: st, M, SH)) hcd (by show (if (shA SH k).1 = 40 then _ else _) = _; exact if_pos hg) rfl kk
theorem g_57b (hcd : cd y pc = some (57, 1, b, nx)) (hg : (shA SH k).1 = 40) (kk : WR y nx ls (vI 0 :: st) M Q) : WR y pc ls (vR k :: st) M Q :=
  g_step (q := (nx, ls, vI 0 :: st, M, SH)) hcd (by show (if (shA SH k).1 = 40 then _ else _) = _; exact if_pos hg) rfl kk
theorem g_60 (hcd : cd y pc = some (60, a, b, nx)) (hk : k ≠ -2000) (hg : 20 ≤ (shA SH k).1 ∧ (shA SH k).1 ≤ 41 ∧ (shA SH k).1 ≠ 40) (kk : WR y nx ls (vI (shA SH k).2 :: st) M Q) : WR y pc ls (vR k :: st) M Q :=
  g_step (q := (nx, ls, vI (shA SH k).2 :: st, M, SH)) hcd (by show (if k = -2000 then _ else if 20 ≤ (shA SH k).1 ∧ (shA SH k).1 ≤ 41 ∧ (shA SH k).1 ≠ 40 then _ else _) = _; rw [if_neg hk, if_pos hg]; rfl) rfl kk
theorem gA_ne {t : Nat} (h : gA t k i) (h1 : t ≠ 99) : k ≠ -2000 := by
  rintro rfl
  exact h1 h.1.symm
theorem g_61 (hcd : cd y pc = some (61, a, b, nx)) (hg : gA 20 k i) (kk : WR y nx ls (vI (M k i) :: st) M Q) : WR y pc ls (vI i :: vR k :: st) M Q :=
  g_step (q := (nx, ls, vI (M k i) :: st, M, SH)) hcd (by show (if k = -2000 then _ else if (shA SH k).1 = 20 ∧ 0 ≤ i ∧ i < (shA SH k).2 then _ else _) = _; rw [if_neg (gA_ne hg (by decide))]; exact if_pos hg) rfl kk
theorem g_60p (hcd : cd LAWN pc = some (60, a, b, nx)) (kk : WR LAWN nx ls (vI (M (-2000) (-1)) :: st) M Q) : WR LAWN pc ls (vR (-2000) :: st) M Q :=
  g_step (q := (nx, ls, vI (M (-2000) (-1)) :: st, M, SH)) hcd rfl rfl kk
theorem g_61p (hcd : cd LAWN pc = some (61, a, b, nx)) (hg : 0 ≤ i ∧ i < M (-2000) (-1)) (kk : WR LAWN nx ls (vI (M (-2000) i) :: st) M Q) : WR LAWN pc ls (vI i :: vR (-2000) :: st) M Q :=
  g_step (q := (nx, ls, vI (M (-2000) i) :: st, M, SH)) hcd (by show (if LAWN = LAWN ∧ 0 ≤ i ∧ i < M (-2000) (-1) then _ else _) = _; rw [if_pos ⟨rfl, hg⟩]; rfl) rfl kk
theorem g_62 (hcd : cd y pc = some (62, a, b, nx)) (hg : gA 20 k i) (kk : WR y nx ls st (upM M k i v) Q) : WR y pc ls (vI v :: vI i :: vR k :: st) M Q :=
  g_step (q := (nx, ls, st, upM M k i v, SH)) hcd (by show (if (shA SH k).1 = 20 ∧ 0 ≤ i ∧ i < (shA SH k).2 then _ else _) = _; exact if_pos hg) rfl kk
theorem g_63 (hcd : cd y pc = some (63, a, b, nx)) (hg : gA 21 k i ∨ gA 22 k i) (kk : WR y nx ls (vI (M k i) :: st) M Q) : WR y pc ls (vI i :: vR k :: st) M Q :=
  g_step (q := (nx, ls, vI (M k i) :: st, M, SH)) hcd (by show (if ((shA SH k).1 = 21 ∨ (shA SH k).1 = 22) ∧ 0 ≤ i ∧ i < (shA SH k).2 then _ else _) = _; rw [if_pos (by rcases hg with h | h <;> exact ⟨by simp [h.1], h.2⟩)]; rfl) rfl kk
theorem g_63s (hcd : cd y pc = some (63, a, b, nx)) (hg : gA 41 k i) (kk : WR y nx ls (vI (strB (-101 - k) i) :: st) M Q) : WR y pc ls (vI i :: vR k :: st) M Q :=
  g_step (q := (nx, ls, vI (strB (-101 - k) i) :: st, M, SH)) hcd (by show (if ((shA SH k).1 = 21 ∨ (shA SH k).1 = 22) ∧ 0 ≤ i ∧ i < (shA SH k).2 then _ else if (shA SH k).1 = 41 ∧ 0 ≤ i ∧ i < (shA SH k).2 then _ else _) = _; rw [if_neg (by rw [hg.1]; omega)]; exact if_pos hg) rfl kk
theorem g_64 (hcd : cd y pc = some (64, a, b, nx)) (hg : (gA 21 k i ∧ -128 ≤ v ∧ v < 128) ∨ (gA 22 k i ∧ 0 ≤ v ∧ v ≤ 1)) (kk : WR y nx ls st (upM M k i v) Q) : WR y pc ls (vI v :: vI i :: vR k :: st) M Q :=
  g_step (q := (nx, ls, st, upM M k i v, SH)) hcd (by show (if (((shA SH k).1 = 21 ∧ -128 ≤ v ∧ v < 128) ∨ ((shA SH k).1 = 22 ∧ 0 ≤ v ∧ v ≤ 1)) ∧ 0 ≤ i ∧ i < (shA SH k).2 then _ else _) = _; rw [if_pos (by rcases hg with ⟨h, h2⟩ | ⟨h, h2⟩ <;> exact ⟨by simp [h.1, h2], h.2⟩)]; rfl) rfl kk
theorem g_67 (hcd : cd y pc = some (67, a, b, nx)) (hg : gA 23 k i) (kk : WR y nx ls (vL (M k i) :: st) M Q) : WR y pc ls (vI i :: vR k :: st) M Q :=
  g_step (q := (nx, ls, vL (M k i) :: st, M, SH)) hcd (by show (if (shA SH k).1 = 23 ∧ 0 ≤ i ∧ i < (shA SH k).2 then _ else _) = _; exact if_pos hg) rfl kk
theorem g_68 (hcd : cd y pc = some (68, a, b, nx)) (hg : gA 23 k i) (kk : WR y nx ls st (upM M k i v) Q) : WR y pc ls (vL v :: vI i :: vR k :: st) M Q :=
  g_step (q := (nx, ls, st, upM M k i v, SH)) hcd (by show (if (shA SH k).1 = 23 ∧ 0 ≤ i ∧ i < (shA SH k).2 then _ else _) = _; exact if_pos hg) rfl kk
theorem g_69 (hcd : cd y pc = some (69, a, b, nx)) (hg : gA 24 k i ∨ gA 25 k i ∨ gA 26 k i) (kk : WR y nx ls (vR (M k i) :: st) M Q) : WR y pc ls (vI i :: vR k :: st) M Q :=
  g_step (q := (nx, ls, vR (M k i) :: st, M, SH)) hcd (by show (if ((shA SH k).1 = 24 ∨ (shA SH k).1 = 25 ∨ (shA SH k).1 = 26) ∧ 0 ≤ i ∧ i < (shA SH k).2 then _ else _) = _; rw [if_pos (by rcases hg with h | h | h <;> exact ⟨by simp [h.1], h.2⟩)]; rfl) rfl kk
theorem g_70 (hcd : cd y pc = some (70, a, b, nx)) (hg : gA 24 k i) (hv : gO 5 v) (kk : WR y nx ls st (upM M k i v) Q) : WR y pc ls (vR v :: vI i :: vR k :: st) M Q :=
  g_step (q := (nx, ls, st, upM M k i v, SH)) hcd (by show (if (shA SH k).1 = 24 ∧ 0 < v ∧ (shA SH v).1 = 5 ∧ 0 ≤ i ∧ i < (shA SH k).2 then _ else _) = _; rw [if_pos ⟨hg.1, hv.1, hv.2, hg.2⟩]; rfl) rfl kk
theorem g_84 (hcd : cd y pc = some (84, a, b, nx)) (h1 : inR x1) (h2 : inR x2) (hw : wsum st ≤ 8) (kk : WR y nx ls (vI (min x1 x2) :: st) M Q) : WR y pc ls (vI x2 :: vI x1 :: st) M Q :=
  g_step (q := (nx, ls, vI (min x1 x2) :: st, M, SH)) hcd (by show (if inR x1 ∧ inR x2 ∧ wsum st ≤ 8 then _ else _) = _; rw [if_pos ⟨h1, h2, hw⟩]; rfl) rfl kk
theorem g_85 (hcd : cd y pc = some (85, a, b, nx)) (h1 : inR x1) (h2 : inR x2) (hw : wsum st ≤ 8) (kk : WR y nx ls (vI (max x1 x2) :: st) M Q) : WR y pc ls (vI x2 :: vI x1 :: st) M Q :=
  g_step (q := (nx, ls, vI (max x1 x2) :: st, M, SH)) hcd (by show (if inR x1 ∧ inR x2 ∧ wsum st ≤ 8 then _ else _) = _; rw [if_pos ⟨h1, h2, hw⟩]; rfl) rfl kk
theorem g_86 (hcd : cd y pc = some (86, a, b, nx)) (h1 : -2147483648 < x ∧ x < 2147483648) (hw : wsum st ≤ 8) (kk : WR y nx ls (vI (if x < 0 then -x else x) :: st) M Q) : WR y pc ls (vI x :: st) M Q :=
  g_step (q := (nx, ls, vI (if x < 0 then -x else x) :: st, M, SH)) hcd (by show (if -2147483648 < x ∧ x < 2147483648 ∧ wsum st ≤ 8 then _ else _) = _; rw [if_pos ⟨h1.1, h1.2, hw⟩]; rfl) rfl kk
def gCp (ks kd sp dp n : Int) : Prop := (shA SH ks).1 = 20 ∧ (shA SH kd).1 = 20 ∧ ks ≠ kd ∧ 0 ≤ n ∧ 0 ≤ sp ∧ 0 ≤ dp ∧ sp + n ≤ (shA SH ks).2 ∧ dp + n ≤ (shA SH kd).2 ∧ n ≤ 10000 ∧ sp ≤ 10000 ∧ dp ≤ 10000
theorem g_87 {ks kd sp dp n : Int} (hcd : cd y pc = some (87, a, b, nx)) (h : gCp ks kd sp dp n) (hw : wsum st ≤ 8) (kk : WR y nx ls st (cpM M ks kd sp dp n) Q) : WR y pc ls (vI n :: vI dp :: vR kd :: vI sp :: vR ks :: st) M Q :=
  g_step (q := (nx, ls, st, cpM M ks kd sp dp n, SH)) hcd (by show (if (shA SH ks).1 = 20 ∧ (shA SH kd).1 = 20 ∧ ks ≠ kd ∧ 0 ≤ n ∧ 0 ≤ sp ∧ 0 ≤ dp ∧ sp + n ≤ (shA SH ks).2 ∧ dp + n ≤ (shA SH kd).2 ∧ n ≤ 10000 ∧ sp ≤ 10000 ∧ dp ≤ 10000 ∧ wsum st ≤ 8 then _ else _) = _; rw [if_pos ⟨h.1, h.2.1, h.2.2.1, h.2.2.2.1, h.2.2.2.2.1, h.2.2.2.2.2.1, h.2.2.2.2.2.2.1, h.2.2.2.2.2.2.2.1, h.2.2.2.2.2.2.2.2.1, h.2.2.2.2.2.2.2.2.2.1, h.2.2.2.2.2.2.2.2.2.2, hw⟩]; rfl) rfl kk
theorem g_90 (hcd : cd y pc = some (90, a, b, nx)) (k : Q (vI 0) M) : WR y pc ls [] M Q := g_ret hcd rfl k
theorem g_91 (hcd : cd y pc = some (91, 1, b, nx)) (k : Q (vI x) M) : WR y pc ls [vI x] M Q := g_ret (w := vI x) hcd (by unfold exStep; simp only [exR]; rfl) k
theorem g_91z (hcd : cd y pc = some (91, 2, b, nx)) (hv : 0 ≤ x ∧ x ≤ 1) (k : Q (vI x) M) : WR y pc ls [vI x] M Q := g_ret (w := vI x) hcd (by show (if (2 : Int) = 1 ∨ ((2 : Int) = 2 ∧ 0 ≤ x ∧ x ≤ 1) ∨ ((2 : Int) = 5 ∧ -128 ≤ x ∧ x < 128) ∨ ((2 : Int) = 6 ∧ 0 ≤ x ∧ x < 65536) then some (vI x) else none).map _ = _; rw [if_pos (by omega)]; rfl) k
theorem g_91b (hcd : cd y pc = some (91, 5, b, nx)) (hv : -128 ≤ x ∧ x < 128) (k : Q (vI x) M) : WR y pc ls [vI x] M Q := g_ret (w := vI x) hcd (by show (if (5 : Int) = 1 ∨ ((5 : Int) = 2 ∧ 0 ≤ x ∧ x ≤ 1) ∨ ((5 : Int) = 5 ∧ -128 ≤ x ∧ x < 128) ∨ ((5 : Int) = 6 ∧ 0 ≤ x ∧ x < 65536) then some (vI x) else none).map _ = _; rw [if_pos (by omega)]; rfl) k
theorem g_91c (hcd : cd y pc = some (91, 6, b, nx)) (hv : 0 ≤ x ∧ x < 65536) (k : Q (vI x) M) : WR y pc ls [vI x] M Q := g_ret (w := vI x) hcd (by show (if (6 : Int) = 1 ∨ ((6 : Int) = 2 ∧ 0 ≤ x ∧ x ≤ 1) ∨ ((6 : Int) = 5 ∧ -128 ≤ x ∧ x < 128) ∨ ((6 : Int) = 6 ∧ 0 ≤ x ∧ x < 65536) then some (vI x) else none).map _ = _; rw [if_pos (by omega)]; rfl) k
theorem g_92 (hcd : cd y pc = some (92, a, b, nx)) (k : Q (vL x) M) : WR y pc ls [vL x] M Q := g_ret (w := vL x) hcd rfl k
theorem g_93 (hcd : cd y pc = some (93, a, b, nx)) (hv : 0 ≤ x) (k : Q (vR x) M) : WR y pc ls [vR x] M Q := g_ret (w := vR x) hcd (by show (if 0 ≤ x then some (vR x) else none).map _ = _; rw [if_pos hv]; rfl) k
theorem g_80 {As st' : List AV} {r : Int} {z : Nat} (hcd : cd y pc = some (80, a, b, nx)) (hz : a.toNat = z) (hst : st.drop b.toNat = vR r :: st') (hA : (st.take b.toNat).reverse = As) (hb : b.toNat ≤ st.length) (hk : (shA SH r).1 = clO z) (hw : wsum st' ≤ 8) (hlen : Nat.ble (padL (vR r :: As)).length (mxL z) = true) (k : WC z (vR r :: As) M fun q M' => WR y nx ls (pushR z q st') M' Q) : WR y pc ls st M Q := by
  subst hz
  refine g_call (z := a.toNat) (as := vR r :: As) (st' := st') hcd ?_ hlen k
  show exE clO 80 a b nx ls st M SH = _
  simp only [exE, hst]
  rw [if_pos ⟨hb, hk, hw⟩, hA]
theorem g_82 {As st' : List AV} {z : Nat} (hcd : cd y pc = some (82, a, b, nx)) (hz : a.toNat = z) (hst : st.drop b.toNat = st') (hA : (st.take b.toNat).reverse = As) (hb : b.toNat ≤ st.length) (hw : wsum st' ≤ 8) (hlen : Nat.ble (padL As).length (mxL z) = true) (k : WC z As M fun q M' => WR y nx ls (pushR z q st') M' Q) : WR y pc ls st M Q := by
  subst hz
  refine g_call (z := a.toNat) (as := As) (st' := st') hcd ?_ hlen k
  show exE clO 82 a b nx ls st M SH = _
  simp only [exE]
  rw [hst, if_pos ⟨hb, hw⟩, hA]
theorem c_I {z : Nat} {as : List AV} {P : Int → Mem → Prop} {st' : List AV} (hz : rtK z ≠ 0) (h : WI z as M P) (hk : ∀ x M', P x M' → WR y nx ls (vI x :: st') M' Q) : WC z as M fun q M' => WR y nx ls (pushR z q st') M' Q :=
  WR.mono h fun r M' ⟨x, e, hp⟩ => by subst e; unfold pushR; rw [if_neg hz]; exact hk x M' hp
theorem c_L {z : Nat} {as : List AV} {P : Int → Mem → Prop} {st' : List AV} (hz : rtK z ≠ 0) (h : WL z as M P) (hk : ∀ x M', P x M' → WR y nx ls (vL x :: st') M' Q) : WC z as M fun q M' => WR y nx ls (pushR z q st') M' Q :=
  WR.mono h fun r M' ⟨x, e, hp⟩ => by subst e; unfold pushR; rw [if_neg hz]; exact hk x M' hp
theorem c_R {z : Nat} {as : List AV} {P : Int → Mem → Prop} {st' : List AV} (hz : rtK z ≠ 0) (h : WF z as M P) (hk : ∀ x M', P x M' → WR y nx ls (vR x :: st') M' Q) : WC z as M fun q M' => WR y nx ls (pushR z q st') M' Q :=
  WR.mono h fun r M' ⟨x, e, hp⟩ => by subst e; unfold pushR; rw [if_neg hz]; exact hk x M' hp
theorem c_V {z : Nat} {as : List AV} {P : Mem → Prop} {st' : List AV} (hz : rtK z = 0) (h : WV z as M P) (hk : ∀ M', P M' → WR y nx ls st' M' Q) : WC z as M fun q M' => WR y nx ls (pushR z q st') M' Q :=
  WR.mono h fun r M' hp => by unfold pushR; rw [if_pos hz]; exact hk M' hp
end G
