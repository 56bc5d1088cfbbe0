/-! EACH CALL of both objects: the same answer, and they stand as before. -/
section OPS
variable {M : Mem} {p p' q q' ft fp : Int} {T : List Int} {L : Lw} {W S : List (List Int)} {c : Int → Int} {E : List En} {A : List Sn} {len : Nat} {xs : Nat → Int32}
/-- both objects with the same state, the script as it was -/
def Inv (len : Nat) (xs : Nat → Int32) (M : Mem) : Prop := ∃ (p p' q q' ft fp : Int) (T : List Int) (L : Lw) (W S : List (List Int)) (c : Int → Int) (E : List En) (A : List Sn), ClsS M p p' q q' T ft fp L W S c E ∧ MdlS M T ft fp L W S c A ∧ Chn E A (W, c) ∧ RfM 1 203 M ∧ ∀ k : Int, k ≤ 0 → M k = M0 len xs k
/-- a call of the class, the same of the model: one answer -/
def Go (zc zm : Nat) (as : List AV) (M : Mem) (Q : Mem → Prop) : Prop := WI zc (vR 1 :: as) M (fun x M1 => M1 (-2000) = M (-2000) ∧ WI zm (vR 204 :: as) M1 (fun y M2 => y = x ∧ Q M2))
theorem rfI {as : List AV} {x : Int} (h : ∀ lo hi, RfS lo hi as) : ∀ lo hi, RfS lo hi (vI x :: as) := fun lo hi => RfS_c.mpr ⟨trivial, h lo hi⟩
theorem rfJ {as : List AV} {x : Int} (h : ∀ lo hi, RfS lo hi as) : ∀ lo hi, RfS lo hi (vL x :: as) := fun lo hi => RfS_c.mpr ⟨trivial, h lo hi⟩
theorem rf0 : ∀ lo hi, RfS lo hi [] := fun _ _ => RfS.nil
theorem go_st {zc zm : Nat} {as : List AV} {a : Int} {Cn Mn Q : Mem → Prop} (hz : (Nat.blt zc 298 && !isIni zc && Nat.blt zm 298 && !isIni zm) = true) (has : ∀ lo hi, RfS lo hi as) (hM : MdlS M T ft fp L W S c A) (hR : RfM 1 203 M) (hc : WI zc (vR 1 :: as) M (fun x M1 => x = a ∧ Cn M1)) (hm : ∀ M1, MdlS M1 T ft fp L W S c A → WI zm (vR 204 :: as) M1 (fun y M2 => y = a ∧ Mn M2)) (hCn : ∀ M1 M2 : Mem, Cn M1 → (∀ k : Int, 0 < k → k ≤ 203 → M2 k = M1 k) → Cn M2) (hq : ∀ M2, Cn M2 → Mn M2 → RfM 1 203 M2 → (∀ k : Int, k ≤ 0 → M2 k = M k) → Q M2) : Go zc zm as M Q := by
  simp only [Bool.and_eq_true, Nat.blt_eq, Bool.not_eq_true'] at hz
  obtain ⟨⟨⟨z1, z2⟩, z3⟩, z4⟩ := hz
  refine (WI.sep (lo := 1) (hi := 203) (as := vR 1 :: as) (by decide) z1 z2 (RfS_c.mpr ⟨(show OKr 1 203 1 from Or.inr ⟨by decide, by decide⟩), has _ _⟩) hR hc).mono (fun x M1 ⟨⟨e1, c1⟩, r1, k1⟩ => ⟨k1 (-2000) (by decide), ?_⟩)
  have m1 := hM.eq (M' := M1) (fun k a => k1 k (by omega))
  refine (WI.sep (lo := 204) (hi := 250) (as := vR 204 :: as) (by decide) z3 z4 (RfS_c.mpr ⟨(show OKr 204 250 204 from Or.inr ⟨by decide, by decide⟩), has _ _⟩) (rfm_m m1.1.1.1) (hm M1 m1)).mono (fun y M2 ⟨⟨e2, c2⟩, r2, k2⟩ => ⟨by rw [e1, e2], ?_⟩)
  exact hq M2 (hCn M1 M2 c1 (fun k a b => k2 k (by omega))) c2 (fun k a b j hj => by rw [k2 k (by omega)]; exact r1 k a b j hj) (fun k a => by rw [k2 k (by omega), k1 k (by omega)])
theorem go_ask {zc zm : Nat} {as : List AV} {a : Int} (hz : (Nat.blt zc 298 && !isIni zc && Nat.blt zm 298 && !isIni zm) = true) (has : ∀ lo hi, RfS lo hi as) (hC : ClsS M p p' q q' T ft fp L W S c E) (hM : MdlS M T ft fp L W S c A) (hch : Chn E A (W, c)) (hR : RfM 1 203 M) (hn : ∀ k : Int, k ≤ 0 → M k = M0 len xs k) (hc : WI zc (vR 1 :: as) M (fun x M1 => x = a ∧ ClsS M1 p p' q q' T ft fp L W S c E)) (hm : ∀ M1, MdlS M1 T ft fp L W S c A → WI zm (vR 204 :: as) M1 (fun y M2 => y = a ∧ MdlS M2 T ft fp L W S c A)) : Go zc zm as M (Inv len xs) :=
  go_st hz has hM hR hc hm (fun _ _ h e => h.eq e) (fun M2 c2 m2 r2 n2 => ⟨_, _, _, _, _, _, _, _, _, _, _, _, _, c2, m2, hch, r2, fun k hk => (n2 k hk).trans (hn k hk)⟩)
theorem oFault {x1 : Int} (hC : ClsS M p p' q q' T ft fp L W S c E) (hM : MdlS M T ft fp L W S c A) (hch : Chn E A (W, c)) (hR : RfM 1 203 M) (hn : ∀ k : Int, k ≤ 0 → M k = M0 len xs k) (i1 : inR x1) : Go 148 212 [vI x1] M (Inv len xs) := by
  refine go_ask (a := aFault ft fp x1) (by decide +kernel) (rfI rf0) hC hM hch hR hn ?_ (fun M1 m1 => ?_)
  · rw [cFault hC i1]; exact ⟨rfl, hC⟩
  · rw [mFault m1 i1]; exact ⟨rfl, m1⟩
theorem oSound {x1 x2 : Int} (hC : ClsS M p p' q q' T ft fp L W S c E) (hM : MdlS M T ft fp L W S c A) (hch : Chn E A (W, c)) (hR : RfM 1 203 M) (hn : ∀ k : Int, k ≤ 0 → M k = M0 len xs k) (i1 : inR x1) (i2 : inR x2) : Go 149 224 [vI x1, vI x2] M (Inv len xs) := by
  refine go_ask (a := aSound L x1 x2) (by decide +kernel) (rfI (rfI rf0)) hC hM hch hR hn ?_ (fun M1 m1 => ?_)
  · rw [cSound hC.2.1 i1 i2]; exact ⟨rfl, hC⟩
  · rw [mSound m1.1 i1 i2]; exact ⟨rfl, m1⟩
theorem oOpn {x1 x2 x3 x4 : Int} (hC : ClsS M p p' q q' T ft fp L W S c E) (hM : MdlS M T ft fp L W S c A) (hch : Chn E A (W, c)) (hR : RfM 1 203 M) (hn : ∀ k : Int, k ≤ 0 → M k = M0 len xs k) (i1 : inR x1) (i2 : inR x2) (i3 : inR x3) (i4 : inR x4) : Go 150 237 [vI x1, vI x2, vI x3, vI x4] M (Inv len xs) := by
  refine go_ask (a := aOpn L W x1 x2 x3 x4) (by decide +kernel) (rfI (rfI (rfI (rfI rf0)))) hC hM hch hR hn ?_ (fun M1 m1 => ?_)
  · rw [cOpn hC.2.1 i1 i2 i3 i4]; exact ⟨rfl, hC⟩
  · exact mOpn m1.1 i1 i2 i3 i4 (fun M' f => ⟨rfl, m1.fr f⟩)
theorem oWord {x1 x2 : Int} (hC : ClsS M p p' q q' T ft fp L W S c E) (hM : MdlS M T ft fp L W S c A) (hch : Chn E A (W, c)) (hR : RfM 1 203 M) (hn : ∀ k : Int, k ≤ 0 → M k = M0 len xs k) (i1 : inR x1) (i2 : inR x2) : Go 151 253 [vI x1, vI x2] M (Inv len xs) := by
  refine go_ask (a := aWord L W S c x1 x2) (by decide +kernel) (rfI (rfI rf0)) hC hM hch hR hn ?_ (fun M1 m1 => ?_)
  · exact cWord hC.2.1 i1 i2 (fun M' f => ⟨rfl, hC.fr f⟩)
  · exact mWord m1.1 i1 i2 (fun M' f => ⟨rfl, m1.fr f⟩)
theorem oAt {x1 x2 : Int} (hC : ClsS M p p' q q' T ft fp L W S c E) (hM : MdlS M T ft fp L W S c A) (hch : Chn E A (W, c)) (hR : RfM 1 203 M) (hn : ∀ k : Int, k ≤ 0 → M k = M0 len xs k) (i1 : inR x1) (i2 : inR x2) : Go 152 223 [vI x1, vI x2] M (Inv len xs) := by
  refine go_ask (a := aAt W S x1 x2) (by decide +kernel) (rfI (rfI rf0)) hC hM hch hR hn ?_ (fun M1 m1 => ?_)
  · rw [cAt hC.2.1 i1 i2]; exact ⟨rfl, hC⟩
  · rw [mAt m1.1 i1 i2]; exact ⟨rfl, m1⟩
theorem oSyl {x1 x2 x3 x4 : Int} (hC : ClsS M p p' q q' T ft fp L W S c E) (hM : MdlS M T ft fp L W S c A) (hch : Chn E A (W, c)) (hR : RfM 1 203 M) (hn : ∀ k : Int, k ≤ 0 → M k = M0 len xs k) (i1 : inR x1) (i2 : inR x2) (i3 : inR x3) (i4 : inR x4) : Go 153 260 [vI x1, vI x2, vI x3, vI x4] M (Inv len xs) := by
  refine go_ask (a := aSyl L W S c x1 x2 x3 x4) (by decide +kernel) (rfI (rfI (rfI (rfI rf0)))) hC hM hch hR hn ?_ (fun M1 m1 => ?_)
  · exact cSyl hC.2.1 i1 i2 i3 i4 (fun M' f => ⟨rfl, hC.fr f⟩)
  · exact mSyl m1.1 i1 i2 i3 i4 (fun M' f => ⟨rfl, m1.fr f⟩)
theorem oJudge {x1 x2 x3 : Int} (hC : ClsS M p p' q q' T ft fp L W S c E) (hM : MdlS M T ft fp L W S c A) (hch : Chn E A (W, c)) (hR : RfM 1 203 M) (hn : ∀ k : Int, k ≤ 0 → M k = M0 len xs k) (i1 : inR x1) (i2 : in64 x2) (i3 : inR x3) : Go 155 256 [vI x1, vL x2, vI x3] M (Inv len xs) := by
  refine go_ask (a := aJudge L W S c x1 x2 x3) (by decide +kernel) (rfI (rfJ (rfI rf0))) hC hM hch hR hn ?_ (fun M1 m1 => ?_)
  · exact cJudge hC.2.1 i1 i2 i3 (fun M' f => ⟨rfl, hC.fr f⟩)
  · exact mJudge m1.1 i1 i2 i3 (fun M' f => ⟨rfl, m1.fr f⟩)
theorem oWithin {x1 x2 : Int} (hC : ClsS M p p' q q' T ft fp L W S c E) (hM : MdlS M T ft fp L W S c A) (hch : Chn E A (W, c)) (hR : RfM 1 203 M) (hn : ∀ k : Int, k ≤ 0 → M k = M0 len xs k) (i1 : inR x1) (i2 : inR x2) : Go 156 255 [vI x1, vI x2] M (Inv len xs) := by
  refine go_ask (a := aWithin L W S c x1 x2) (by decide +kernel) (rfI (rfI rf0)) hC hM hch hR hn ?_ (fun M1 m1 => ?_)
  · exact cWithin hC.2.1 i1 i2 (fun M' f => ⟨rfl, hC.fr f⟩)
  · exact mWithin m1.1 i1 i2 (fun M' f => ⟨rfl, m1.fr f⟩)
theorem oRhyme {x1 x2 : Int} (hC : ClsS M p p' q q' T ft fp L W S c E) (hM : MdlS M T ft fp L W S c A) (hch : Chn E A (W, c)) (hR : RfM 1 203 M) (hn : ∀ k : Int, k ≤ 0 → M k = M0 len xs k) (i1 : inR x1) (i2 : inR x2) : Go 157 262 [vI x1, vI x2] M (Inv len xs) := by
  refine go_ask (a := aRhyme L W S x1 x2) (by decide +kernel) (rfI (rfI rf0)) hC hM hch hR hn ?_ (fun M1 m1 => ?_)
  · exact cRhyme hC.2.1 i1 i2 (fun M' f => ⟨rfl, hC.fr f⟩)
  · exact mRhyme m1.1 i1 i2 (fun M' f => ⟨rfl, m1.fr f⟩)
theorem oMend {x1 x2 : Int} (hC : ClsS M p p' q q' T ft fp L W S c E) (hM : MdlS M T ft fp L W S c A) (hch : Chn E A (W, c)) (hR : RfM 1 203 M) (hn : ∀ k : Int, k ≤ 0 → M k = M0 len xs k) (i1 : inR x1) (i2 : inR x2) : Go 158 266 [vI x1, vI x2] M (Inv len xs) := by
  refine go_ask (a := aMend L W S x1 x2) (by decide +kernel) (rfI (rfI rf0)) hC hM hch hR hn ?_ (fun M1 m1 => ?_)
  · exact cMend hC.2.1 hC.2.2.2.1 hM.on.1 hM.on.2 i1 i2 (fun M' f => ⟨rfl, hC.fr f⟩)
  · exact mMend m1.1 i1 i2 (fun M' f => ⟨rfl, m1.fr f⟩)
theorem oFar {x1 x2 : Int} (hC : ClsS M p p' q q' T ft fp L W S c E) (hM : MdlS M T ft fp L W S c A) (hch : Chn E A (W, c)) (hR : RfM 1 203 M) (hn : ∀ k : Int, k ≤ 0 → M k = M0 len xs k) (i1 : inR x1) (i2 : inR x2) : Go 159 269 [vI x1, vI x2] M (Inv len xs) := by
  refine go_ask (a := aFar L W S x1 x2) (by decide +kernel) (rfI (rfI rf0)) hC hM hch hR hn ?_ (fun M1 m1 => ?_)
  · exact cFar hC.2.1 i1 i2 (fun M' f => ⟨rfl, hC.fr f⟩)
  · exact mFar m1.1 i1 i2 (fun M' f => ⟨rfl, m1.fr f⟩)
theorem oNear {x1 : Int} (hC : ClsS M p p' q q' T ft fp L W S c E) (hM : MdlS M T ft fp L W S c A) (hch : Chn E A (W, c)) (hR : RfM 1 203 M) (hn : ∀ k : Int, k ≤ 0 → M k = M0 len xs k) (i1 : inR x1) : Go 160 270 [vI x1] M (Inv len xs) := by
  refine go_ask (a := aNear L W S x1) (by decide +kernel) (rfI rf0) hC hM hch hR hn ?_ (fun M1 m1 => ?_)
  · exact cNear hC.2.1 i1 (fun M' f => ⟨rfl, hC.fr f⟩)
  · exact mNear m1.1 i1 (fun M' f => ⟨rfl, m1.fr f⟩)
theorem oParts {x1 : Int} (hC : ClsS M p p' q q' T ft fp L W S c E) (hM : MdlS M T ft fp L W S c A) (hch : Chn E A (W, c)) (hR : RfM 1 203 M) (hn : ∀ k : Int, k ≤ 0 → M k = M0 len xs k) (i1 : inR x1) : Go 161 273 [vI x1] M (Inv len xs) := by
  refine go_ask (a := aParts W S x1) (by decide +kernel) (rfI rf0) hC hM hch hR hn ?_ (fun M1 m1 => ?_)
  · exact cParts hC.2.1 i1 (fun M' f => ⟨rfl, hC.fr f⟩)
  · exact mParts m1.1 i1 (fun M' f => ⟨rfl, m1.fr f⟩)
theorem oHills {x1 : Int} (hC : ClsS M p p' q q' T ft fp L W S c E) (hM : MdlS M T ft fp L W S c A) (hch : Chn E A (W, c)) (hR : RfM 1 203 M) (hn : ∀ k : Int, k ≤ 0 → M k = M0 len xs k) (i1 : inR x1) : Go 162 254 [vI x1] M (Inv len xs) := by
  refine go_ask (a := aHills L W S x1) (by decide +kernel) (rfI rf0) hC hM hch hR hn ?_ (fun M1 m1 => ?_)
  · rw [cHills hC.2.1 hM.on.1 hM.on.2 i1]; exact ⟨rfl, hC⟩
  · exact mHills m1.1 i1 (fun M' f => ⟨rfl, m1.fr f⟩)
theorem oJoins {x1 : Int} (hC : ClsS M p p' q q' T ft fp L W S c E) (hM : MdlS M T ft fp L W S c A) (hch : Chn E A (W, c)) (hR : RfM 1 203 M) (hn : ∀ k : Int, k ≤ 0 → M k = M0 len xs k) (i1 : inR x1) : Go 163 258 [vI x1] M (Inv len xs) := by
  refine go_ask (a := aJoins L W S x1) (by decide +kernel) (rfI rf0) hC hM hch hR hn ?_ (fun M1 m1 => ?_)
  · exact cJoins hC.2.1 i1 (fun M' f => ⟨rfl, hC.fr f⟩)
  · exact mJoins m1.1 i1 (fun M' f => ⟨rfl, m1.fr f⟩)
theorem oSpeech {x1 : Int} (hC : ClsS M p p' q q' T ft fp L W S c E) (hM : MdlS M T ft fp L W S c A) (hch : Chn E A (W, c)) (hR : RfM 1 203 M) (hn : ∀ k : Int, k ≤ 0 → M k = M0 len xs k) (i1 : inR x1) : Go 164 261 [vI x1] M (Inv len xs) := by
  refine go_ask (a := aSpeech L W S x1) (by decide +kernel) (rfI rf0) hC hM hch hR hn ?_ (fun M1 m1 => ?_)
  · exact cSpeech hC.2.1 i1 (fun M' f => ⟨rfl, hC.fr f⟩)
  · exact mSpeech m1.1 i1 (fun M' f => ⟨rfl, m1.fr f⟩)
theorem oMis {x1 x2 : Int} (hC : ClsS M p p' q q' T ft fp L W S c E) (hM : MdlS M T ft fp L W S c A) (hch : Chn E A (W, c)) (hR : RfM 1 203 M) (hn : ∀ k : Int, k ≤ 0 → M k = M0 len xs k) (i1 : inR x1) (i2 : inR x2) : Go 165 276 [vI x1, vI x2] M (Inv len xs) := by
  refine go_ask (a := aMis L W S x1 x2) (by decide +kernel) (rfI (rfI rf0)) hC hM hch hR hn ?_ (fun M1 m1 => ?_)
  · exact cMis hC.2.1 i1 i2 (fun M' f => ⟨rfl, hC.fr f⟩)
  · exact mMis m1.1 i1 i2 (fun M' f => ⟨rfl, m1.fr f⟩)
theorem oBeat {x1 : Int} (hC : ClsS M p p' q q' T ft fp L W S c E) (hM : MdlS M T ft fp L W S c A) (hch : Chn E A (W, c)) (hR : RfM 1 203 M) (hn : ∀ k : Int, k ≤ 0 → M k = M0 len xs k) (i1 : inR x1) : Go 166 277 [vI x1] M (Inv len xs) := by
  refine go_ask (a := aBeat L W S x1) (by decide +kernel) (rfI rf0) hC hM hch hR hn ?_ (fun M1 m1 => ?_)
  · exact cBeat hC.2.1 i1 (fun M' f => ⟨rfl, hC.fr f⟩)
  · exact mBeat m1.1 i1 (fun M' f => ⟨rfl, m1.fr f⟩)
theorem oPoss {x1 : Int} (hC : ClsS M p p' q q' T ft fp L W S c E) (hM : MdlS M T ft fp L W S c A) (hch : Chn E A (W, c)) (hR : RfM 1 203 M) (hn : ∀ k : Int, k ≤ 0 → M k = M0 len xs k) (i1 : inR x1) : Go 167 281 [vI x1] M (Inv len xs) := by
  refine go_ask (a := aPoss L W x1) (by decide +kernel) (rfI rf0) hC hM hch hR hn ?_ (fun M1 m1 => ?_)
  · exact cPoss hC.2.1 i1 (fun M' f => ⟨rfl, hC.fr f⟩)
  · exact mPoss m1.1 i1 (fun M' f => ⟨rfl, m1.fr f⟩)
theorem oTally {x1 x2 x3 : Int} (hC : ClsS M p p' q q' T ft fp L W S c E) (hM : MdlS M T ft fp L W S c A) (hch : Chn E A (W, c)) (hR : RfM 1 203 M) (hn : ∀ k : Int, k ≤ 0 → M k = M0 len xs k) (i1 : inR x1) (i2 : inR x2) (i3 : inR x3) : Go 168 286 [vI x1, vI x2, vI x3] M (Inv len xs) := by
  refine go_ask (a := aTally L W x1 x2 x3) (by decide +kernel) (rfI (rfI (rfI rf0))) hC hM hch hR hn ?_ (fun M1 m1 => ?_)
  · exact cTally hC.2.1 hC.2.2.1 i1 i2 i3 (fun M' f => ⟨rfl, hC.fr f⟩)
  · exact mTally m1.1 m1.2.1 i1 i2 i3 (fun M' f u => ⟨rfl, m1.frT f u⟩)
theorem oMade {x1 x2 x3 : Int} (hC : ClsS M p p' q q' T ft fp L W S c E) (hM : MdlS M T ft fp L W S c A) (hch : Chn E A (W, c)) (hR : RfM 1 203 M) (hn : ∀ k : Int, k ≤ 0 → M k = M0 len xs k) (i1 : inR x1) (i2 : inR x2) (i3 : inR x3) : Go 169 289 [vI x1, vI x2, vI x3] M (Inv len xs) := by
  refine go_ask (a := aMade L W x1 x2 x3) (by decide +kernel) (rfI (rfI (rfI rf0))) hC hM hch hR hn ?_ (fun M1 m1 => ?_)
  · exact cMade hC.2.1 hC.2.2.1 i2 i3 (fun M' f => ⟨rfl, hC.fr f⟩)
  · exact mMade m1.1 m1.2.1 i2 i3 (fun M' f u => ⟨rfl, m1.frT f u⟩)
theorem oAbout {x1 : Int} (hC : ClsS M p p' q q' T ft fp L W S c E) (hM : MdlS M T ft fp L W S c A) (hch : Chn E A (W, c)) (hR : RfM 1 203 M) (hn : ∀ k : Int, k ≤ 0 → M k = M0 len xs k) (i1 : inR x1) : Go 174 290 [vI x1] M (Inv len xs) := by
  refine go_ask (a := aAbout L W S c A.length T.length x1) (by decide +kernel) (rfI rf0) hC hM hch hR hn ?_ (fun M1 m1 => ?_)
  · rw [cAbout hC i1, hch.1]; exact ⟨rfl, hC⟩
  · rw [mAbout m1 i1]; exact ⟨rfl, m1⟩
theorem oFeed {x1 x2 x3 x4 x5 : Int} (hC : ClsS M p p' q q' T ft fp L W S c E) (hM : MdlS M T ft fp L W S c A) (hch : Chn E A (W, c)) (hR : RfM 1 203 M) (hn : ∀ k : Int, k ≤ 0 → M k = M0 len xs k) (i1 : inR x1) (i2 : inR x2) (i3 : inR x3) (i4 : inR x4) (i5 : inR x5) : Go 144 181 [vI x1, vI x2, vI x3, vI x4, vI x5] M (Inv len xs) := by
  by_cases z : T.length + 20 ≤ 900
  · exact go_st (by decide +kernel) (rfI (rfI (rfI (rfI (rfI rf0))))) hM hR (cFeed hC (fun M' => by rw [if_pos z]; exact fun h => ⟨rfl, h⟩)) (fun M1 m1 => mFeed m1 i1 i2 i3 i4 i5 (fun M' => by rw [if_pos z]; exact fun h => ⟨rfl, h⟩)) (fun _ _ h e => h.eq e) (fun M2 c2 m2 r2 n2 => ⟨_, _, _, _, _, _, _, _, _, _, _, _, _, c2, m2, hch, r2, fun k hk => (n2 k hk).trans (hn k hk)⟩)
  · exact go_st (by decide +kernel) (rfI (rfI (rfI (rfI (rfI rf0))))) hM hR (cFeed hC (fun M' => by rw [if_neg z]; exact fun h => ⟨rfl, h⟩)) (fun M1 m1 => mFeed m1 i1 i2 i3 i4 i5 (fun M' => by rw [if_neg z]; exact fun h => ⟨rfl, h⟩)) (fun _ _ h e => h.eq e) (fun M2 c2 m2 r2 n2 => ⟨_, _, _, _, _, _, _, _, _, _, _, _, _, c2, m2, hch, r2, fun k hk => (n2 k hk).trans (hn k hk)⟩)
theorem oEnd {x1 : Int} (hC : ClsS M p p' q q' T ft fp L W S c E) (hM : MdlS M T ft fp L W S c A) (hch : Chn E A (W, c)) (hR : RfM 1 203 M) (hn : ∀ k : Int, k ≤ 0 → M k = M0 len xs k) (i1 : inR x1) : Go 145 183 [vI x1] M (Inv len xs) := by
  by_cases z : 0 ≤ x1 ∧ x1 ≤ T.length
  · exact go_st (by decide +kernel) (rfI rf0) hM hR (cEnd hC i1 (fun M' => by rw [if_pos z]; exact fun h => ⟨rfl, h⟩)) (fun M1 m1 => mEnd m1 i1 (fun M' => by rw [if_pos z]; exact fun h => ⟨rfl, h⟩)) (fun _ _ h e => h.eq e) (fun M2 c2 m2 r2 n2 => ⟨_, _, _, _, _, _, _, _, _, _, _, _, _, c2, m2, hch, r2, fun k hk => (n2 k hk).trans (hn k hk)⟩)
  · exact go_st (by decide +kernel) (rfI rf0) hM hR (cEnd hC i1 (fun M' => by rw [if_neg z]; exact fun h => ⟨rfl, h⟩)) (fun M1 m1 => mEnd m1 i1 (fun M' => by rw [if_neg z]; exact fun h => ⟨rfl, h⟩)) (fun _ _ h e => h.eq e) (fun M2 c2 m2 r2 n2 => ⟨_, _, _, _, _, _, _, _, _, _, _, _, _, c2, m2, hch, r2, fun k hk => (n2 k hk).trans (hn k hk)⟩)
theorem oLearn {x1 : Int} (hC : ClsS M p p' q q' T ft fp L W S c E) (hM : MdlS M T ft fp L W S c A) (hch : Chn E A (W, c)) (hR : RfM 1 203 M) (hn : ∀ k : Int, k ≤ 0 → M k = M0 len xs k) (i1 : inR x1) : Go 170 215 [vI x1] M (Inv len xs) := by
  by_cases z : (0 ≤ x1 ∧ x1 < S.length) ∧ W.length < 20
  · exact go_st (Cn := fun M => ClsS M p p' q q' T ft fp L (W ++ [S.getD x1.toNat []]) S c (pushE E (0, (W.length : Int), 0, []))) (Mn := fun M => MdlS M T ft fp L (W ++ [S.getD x1.toNat []]) S c (pushA A (W, c))) (by decide +kernel) (rfI rf0) hM hR (cLearn hC i1 (fun M' => by rw [if_pos z]; exact fun h => ⟨rfl, h⟩)) (fun M1 m1 => mLearn m1 i1 (fun M' => by rw [if_pos z]; exact fun h => ⟨rfl, h⟩)) (fun _ _ h e => h.eq e) (fun M2 c2 m2 r2 n2 => ⟨_, _, _, _, _, _, _, _, _, _, _, _, _, c2, m2, chn_push hch (Or.inl ⟨rfl, rfl, rfl, _, rfl⟩), r2, fun k hk => (n2 k hk).trans (hn k hk)⟩)
  · exact go_st (by decide +kernel) (rfI rf0) hM hR (cLearn hC i1 (fun M' => by rw [if_neg z]; exact fun h => ⟨rfl, h⟩)) (fun M1 m1 => mLearn m1 i1 (fun M' => by rw [if_neg z]; exact fun h => ⟨rfl, h⟩)) (fun _ _ h e => h.eq e) (fun M2 c2 m2 r2 n2 => ⟨_, _, _, _, _, _, _, _, _, _, _, _, _, c2, m2, hch, r2, fun k hk => (n2 k hk).trans (hn k hk)⟩)
theorem oForget {x1 : Int} (hC : ClsS M p p' q q' T ft fp L W S c E) (hM : MdlS M T ft fp L W S c A) (hch : Chn E A (W, c)) (hR : RfM 1 203 M) (hn : ∀ k : Int, k ≤ 0 → M k = M0 len xs k) (i1 : inR x1) : Go 171 216 [vI x1] M (Inv len xs) := by
  by_cases z : 100 ≤ x1 ∧ x1 - 100 < W.length
  · exact go_st (Cn := fun M => ClsS M p p' q q' T ft fp L (delL (x1 - 100).toNat W) S c (pushE E (1, x1 - 100, 0, W.getD (x1 - 100).toNat []))) (Mn := fun M => MdlS M T ft fp L (delL (x1 - 100).toNat W) S c (pushA A (W, c))) (by decide +kernel) (rfI rf0) hM hR (cForget hC i1 (fun M' => by rw [if_pos z]; exact fun h => ⟨rfl, h⟩)) (fun M1 m1 => mForget m1 i1 (fun M' => by rw [if_pos z]; exact fun h => ⟨rfl, h⟩)) (fun _ _ h e => h.eq e) (fun M2 c2 m2 r2 n2 => ⟨_, _, _, _, _, _, _, _, _, _, _, _, _, c2, m2, chn_push hch (Or.inr (Or.inl ⟨rfl, rfl, hC.2.1.1.2.1.2.2.2.1, (x1 - 100).toNat, by show (x1 - 100).toNat < W.length; omega, by show x1 - 100 = ((x1 - 100).toNat : Int); omega, rfl, rfl⟩)), r2, fun k hk => (n2 k hk).trans (hn k hk)⟩)
  · exact go_st (by decide +kernel) (rfI rf0) hM hR (cForget hC i1 (fun M' => by rw [if_neg z]; exact fun h => ⟨rfl, h⟩)) (fun M1 m1 => mForget m1 i1 (fun M' => by rw [if_neg z]; exact fun h => ⟨rfl, h⟩)) (fun _ _ h e => h.eq e) (fun M2 c2 m2 r2 n2 => ⟨_, _, _, _, _, _, _, _, _, _, _, _, _, c2, m2, hch, r2, fun k hk => (n2 k hk).trans (hn k hk)⟩)
theorem oCost {x1 x2 : Int} (hC : ClsS M p p' q q' T ft fp L W S c E) (hM : MdlS M T ft fp L W S c A) (hch : Chn E A (W, c)) (hR : RfM 1 203 M) (hn : ∀ k : Int, k ≤ 0 → M k = M0 len xs k) (i1 : inR x1) (i2 : inR x2) : Go 172 217 [vI x1, vI x2] M (Inv len xs) := by
  by_cases z : (0 ≤ x1 ∧ x1 < 6) ∧ (0 ≤ x2 ∧ x2 ≤ 999) ∧ x2 ≠ c x1
  · exact go_st (Cn := fun M => ClsS M p p' q q' T ft fp L W S (updC c x1 x2) (pushE E (2, x1, c x1, []))) (Mn := fun M => MdlS M T ft fp L W S (updC c x1 x2) (pushA A (W, c))) (by decide +kernel) (rfI (rfI rf0)) hM hR (cCost hC i1 i2 (fun M' => by rw [if_pos z]; exact fun h => ⟨rfl, h⟩)) (fun M1 m1 => mCost m1 i1 i2 (fun M' => by rw [if_pos z]; exact fun h => ⟨rfl, h⟩)) (fun _ _ h e => h.eq e) (fun M2 c2 m2 r2 n2 => ⟨_, _, _, _, _, _, _, _, _, _, _, _, _, c2, m2, chn_push hch (Or.inr (Or.inr ⟨rfl, rfl, z.1.1, z.1.2, rfl, (hC.2.1.2.2.2.1 x1 z.1.1 z.1.2).2.1, (hC.2.1.2.2.2.1 x1 z.1.1 z.1.2).2.2, x2, rfl⟩)), r2, fun k hk => (n2 k hk).trans (hn k hk)⟩)
  · exact go_st (by decide +kernel) (rfI (rfI rf0)) hM hR (cCost hC i1 i2 (fun M' => by rw [if_neg z]; exact fun h => ⟨rfl, h⟩)) (fun M1 m1 => mCost m1 i1 i2 (fun M' => by rw [if_neg z]; exact fun h => ⟨rfl, h⟩)) (fun _ _ h e => h.eq e) (fun M2 c2 m2 r2 n2 => ⟨_, _, _, _, _, _, _, _, _, _, _, _, _, c2, m2, hch, r2, fun k hk => (n2 k hk).trans (hn k hk)⟩)
theorem oUndo (hC : ClsS M p p' q q' T ft fp L W S c E) (hM : MdlS M T ft fp L W S c A) (hch : Chn E A (W, c)) (hR : RfM 1 203 M) (hn : ∀ k : Int, k ≤ 0 → M k = M0 len xs k)  : Go 173 214 [] M (Inv len xs) := by
  rcases E.eq_nil_or_concat with e0 | ⟨E0, e, e0⟩
  · subst e0
    have hA : A = [] := List.eq_nil_of_length_eq_zero hch.1.symm
    subst hA
    exact go_st (by decide +kernel) rf0 hM hR (cUndo0 hC (fun M' h => ⟨rfl, h⟩)) (fun M1 m1 => mUndo0 m1 (fun M' h => ⟨rfl, h⟩)) (fun _ _ h e => h.eq e) (fun M2 c2 m2 r2 n2 => ⟨_, _, _, _, _, _, _, _, _, _, _, _, _, c2, m2, chn_nil, r2, fun k hk => (n2 k hk).trans (hn k hk)⟩)
  · rw [List.concat_eq_append] at e0
    subst e0
    obtain ⟨A0, s, rfl, ch0, st⟩ := chn_pop hch
    obtain ⟨b1, b2⟩ := stp_back st
    exact go_st (by decide +kernel) rf0 hM hR (cUndo hC b2 (fun M' h => ⟨rfl, by rw [b1] at h; exact h⟩)) (fun M1 m1 => mUndo m1 (fun M' h => ⟨by rw [ch0.1], h⟩)) (fun _ _ h e => h.eq e) (fun M2 c2 m2 r2 n2 => ⟨_, _, _, _, _, _, _, _, _, _, _, _, _, c2, m2, ch0, r2, fun k hk => (n2 k hk).trans (hn k hk)⟩)
theorem oLaw (hC : ClsS M p p' q q' T ft fp L W S c E) (hM : MdlS M T ft fp L W S c A) (hch : Chn E A (W, c)) (hR : RfM 1 203 M) (hn : ∀ k : Int, k ≤ 0 → M k = M0 len xs k)  : Go 146 209 [] M (Inv len xs) := by
  cases hr : lawR T 900 (nxt T 0) G0 with
  | error e => exact go_st (by decide +kernel) rf0 hM hR (cLaw hC (fun M' => by rw [hr]; exact fun h => ⟨rfl, h⟩)) (fun M1 m1 => mLaw m1 (fun M' => by rw [hr]; exact fun h => ⟨rfl, h⟩)) (fun _ _ h e => h.eq e) (fun M2 c2 m2 r2 n2 => ⟨_, _, _, _, _, _, _, _, _, _, _, _, _, c2, m2, hch, r2, fun k hk => (n2 k hk).trans (hn k hk)⟩)
  | ok g => exact go_st (by decide +kernel) rf0 hM hR (cLaw hC (fun M' => by rw [hr]; exact fun h _ => ⟨rfl, h⟩)) (fun M1 m1 => mLaw m1 (fun M' => by rw [hr]; exact fun h _ => ⟨rfl, h⟩)) (fun _ _ h e => h.eq e) (fun M2 c2 m2 r2 n2 => ⟨_, _, _, _, _, _, _, _, _, _, _, _, _, c2, m2, chn_nil, r2, fun k hk => (n2 k hk).trans (hn k hk)⟩)
theorem oSay (hC : ClsS M p p' q q' T ft fp L W S c E) (hM : MdlS M T ft fp L W S c A) (hch : Chn E A (W, c)) (hR : RfM 1 203 M) (hn : ∀ k : Int, k ≤ 0 → M k = M0 len xs k)  : Go 147 211 [] M (Inv len xs) := by
  by_cases z : T.length ≤ 200
  · cases hr : sayA L T with
    | error e => exact go_st (by decide +kernel) rf0 hM hR (cSay hC (fun M' => by rw [if_pos z, hr]; exact fun h => ⟨rfl, h⟩)) (fun M1 m1 => mSay m1 (fun M' => by rw [if_pos z, hr]; exact fun h => ⟨rfl, h⟩)) (fun _ _ h e => h.eq e) (fun M2 c2 m2 r2 n2 => ⟨_, _, _, _, _, _, _, _, _, _, _, _, _, c2, m2, hch, r2, fun k hk => (n2 k hk).trans (hn k hk)⟩)
    | ok S' => exact go_st (by decide +kernel) rf0 hM hR (cSay hC (fun M' => by rw [if_pos z, hr]; exact fun h => ⟨rfl, h⟩)) (fun M1 m1 => mSay m1 (fun M' => by rw [if_pos z, hr]; exact fun h => ⟨rfl, h⟩)) (fun _ _ h e => h.eq e) (fun M2 c2 m2 r2 n2 => ⟨_, _, _, _, _, _, _, _, _, _, _, _, _, c2, m2, hch, r2, fun k hk => (n2 k hk).trans (hn k hk)⟩)
  · exact go_st (by decide +kernel) rf0 hM hR (cSay hC (fun M' => by rw [if_neg z]; exact fun h => ⟨rfl, h⟩)) (fun M1 m1 => mSay m1 (fun M' => by rw [if_neg z]; exact fun h => ⟨rfl, h⟩)) (fun _ _ h e => h.eq e) (fun M2 c2 m2 r2 n2 => ⟨_, _, _, _, _, _, _, _, _, _, _, _, _, c2, m2, hch, r2, fun k hk => (n2 k hk).trans (hn k hk)⟩)
end OPS
