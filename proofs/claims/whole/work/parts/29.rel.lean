/-! ===== the whole of what both hold ===== -/
abbrev aS : Type := aT × aN × Nat × aF × Nat × (Nat → aN) × (Nat → Bool) × (Nat → aN) × Nat × aF × aF × Int64
abbrev sT (a : aS) : aT := a.1
abbrev sN (a : aS) : aN := a.2.1
abbrev sLen (a : aS) : Nat := a.2.2.1
abbrev sTx (a : aS) : aF := a.2.2.2.1
abbrev sK (a : aS) : Nat := a.2.2.2.2.1
abbrev sH (a : aS) : Nat → aN := a.2.2.2.2.2.1
abbrev sKe (a : aS) : Nat → Bool := a.2.2.2.2.2.2.1
abbrev sIm (a : aS) : Nat → aN := a.2.2.2.2.2.2.2.1
abbrev sQ (a : aS) : Nat := a.2.2.2.2.2.2.2.2.1
abbrev sOf (a : aS) : aF := a.2.2.2.2.2.2.2.2.2.1
abbrev sIs (a : aS) : aF := a.2.2.2.2.2.2.2.2.2.2.1
abbrev sTr (a : aS) : Int64 := a.2.2.2.2.2.2.2.2.2.2.2
abbrev mkA (T : aT) (N : aN) (n : Nat) (tx : aF) (k : Nat) (H : Nat → aN) (ke : Nat → Bool) (im : Nat → aN) (q : Nat) (o i : aF) (tr : Int64) : aS := (T, N, n, tx, k, H, ke, im, q, o, i, tr)
def AWf (a : aS) : Prop := TWf (sT a) ∧ NWf (sT a) (sN a) ∧ (sLen a ≤ 150 ∧ ∀ i, i < sLen a → sTx a i < 256) ∧ (sK a ≤ 10 ∧ ∀ j, j < sK a → NWf (sT a) (sH a j)) ∧ (∀ i, i < 2 → sKe a i = true → NWf (sT a) (sIm a i)) ∧ (sQ a ≤ 6 ∧ ∀ i, i < sQ a → sOf a i < aNs (sT a) ∧ sIs a i < 2)
/-- what undoing a deed does to a scene -/
def tb (dd t e : Int32) (n : cN) : cN :=
  if dd = 0 then (nCome n &&& ((1 <<< (t &&& 31)) ^^^ (-1)), nYardOf n, nClaimed n)
  else if dd = 1 then (nCome n ||| (1 <<< (t &&& 31)), nYardOf n, nClaimed n)
  else if dd = 2 then (nCome n, nYardOf n, upd (nClaimed n) t.toNatClampNeg (nClaimed n t.toNatClampNeg &&& ((1 <<< (e &&& 31)) ^^^ (-1))))
  else (nCome n, upd (nYardOf n) t.toNatClampNeg e, nClaimed n)
/-- a deed that leads from N to N' -/
def DRel (A : aT) (dd t e : Int32) (N N' : aN) : Prop := vp_in t 6 ∧ ∀ n : cN, NRel A n N' → NRel A (tb dd t e n) N
def hx (a : aS) (j : Nat) : aN := if j < sK a then sH a j else sN a
def CRel (c : cS) (a : aS) : Prop := TRel (cTo c) (sT a) ∧ NRel (sT a) (cSc c) (sN a) ∧ (rLetters (cRd c) = nI (sLen a) ∧ ∀ i, i < sLen a → rText (cRd c) i = nI (sTx a i)) ∧ (pKnown (cPa c) = nI (sK a) ∧ ∀ j, j < sK a → DRel (sT a) (pDeed (cPa c) j) (pThing (cPa c) j) (pDetail (cPa c) j) (hx a j) (hx a (j + 1))) ∧ (∀ i, i < 2 → cKept c i = b2i (sKe a i)) ∧ (sKe a 0 = true → NRel (sT a) (cI0 c) (sIm a 0)) ∧ (sKe a 1 = true → NRel (sT a) (cI1 c) (sIm a 1)) ∧ (cSeen c = nI (sQ a) ∧ ∀ i, i < sQ a → cSeenS c i = nI (sOf a i) ∧ cSeenW c i = nI (sIs a i)) ∧ cTraced c = sTr a
def MTold (g : cF) (A : aT) : Prop := g 0 = nI (aNy A) ∧ g 1 = nI (aNs A) ∧ g 2 = nI (aNp A) ∧ g 3 = nI (aSi A) ∧ (∀ j, j < aNs A → g (4 + j) = nI (aWe A j) ∧ g (10 + j) = nI (aIn A j)) ∧ (∀ p, p < aNp A → g (16 + p) = nI (aHo A p) ∧ g (22 + p) = nI (aSt A p) ∧ g (28 + p) = nI (aCr A p) ∧ g (34 + p) = nI (aWg A p))
def MRow (A : aT) (f : cF) (o : Nat) (N : aN) : Prop := f (o + 6) = nI (nCo N) ∧ (∀ j, j < aNs A → f (o + j) = nI (nYa N j)) ∧ (∀ p, p < aNp A → f (o + 7 + p) = nI (pop (nCl N p)) ∧ f (o + 13 + p) = nI (nCl N p))
def MRel (m : mS) (a : aS) : Prop := MTold (mTold m) (sT a) ∧ MRow (sT a) (mNow m) 0 (sN a) ∧ (mLength m = nI (sLen a) ∧ ∀ i, i < sLen a → mText m i = nI (sTx a i)) ∧ (mUndo m = nI (sK a) ∧ ∀ j, j < sK a → MRow (sT a) (mBefore m) (19 * j) (sH a j)) ∧ (mImaged m = nI ((sKe a 0).toNat + 2 * (sKe a 1).toNat) ∧ ∀ i, i < 2 → sKe a i = true → MRow (sT a) (mImages m) (19 * i) (sIm a i)) ∧ (mSeen m = nI (sQ a) ∧ ∀ i, i < sQ a → mSeenOf m i = nI (sOf a i) ∧ mSeenIs m i = nI (sIs a i)) ∧ mTrace m = sTr a
