/-! ===== what class and reference are about: a town, what is now in it ===== -/
abbrev aF : Type := Nat → Nat
abbrev aT : Type := Nat × Nat × Nat × Nat × aF × aF × aF × aF × aF × aF
abbrev aNy (A : aT) : Nat := A.1
abbrev aSi (A : aT) : Nat := A.2.1
abbrev aNs (A : aT) : Nat := A.2.2.1
abbrev aNp (A : aT) : Nat := A.2.2.2.1
abbrev aWe (A : aT) : aF := A.2.2.2.2.1
abbrev aIn (A : aT) : aF := A.2.2.2.2.2.1
abbrev aHo (A : aT) : aF := A.2.2.2.2.2.2.1
abbrev aSt (A : aT) : aF := A.2.2.2.2.2.2.2.1
abbrev aCr (A : aT) : aF := A.2.2.2.2.2.2.2.2.1
abbrev aWg (A : aT) : aF := A.2.2.2.2.2.2.2.2.2
abbrev aN : Type := Nat × aF × aF
abbrev nCo (N : aN) : Nat := N.1
abbrev nYa (N : aN) : aF := N.2.1
abbrev nCl (N : aN) : aF := N.2.2
def TWf (A : aT) : Prop := 2 ≤ aNy A ∧ aNy A ≤ 10 ∧ aSi A ≤ 3 ∧ aNs A ≤ 6 ∧ aNp A ≤ 6 ∧ (∀ j, j < aNs A → 1 ≤ aWe A j ∧ aWe A j ≤ 30 ∧ aIn A j < 6) ∧ (∀ p, p < aNp A → aHo A p < aNy A ∧ 1 ≤ aSt A p ∧ aSt A p ≤ 9 ∧ aCr A p ≤ 3 ∧ aWg A p < 64)
def NWf (A : aT) (N : aN) : Prop := nCo N < 2 ^ aNp A ∧ (∀ j, j < aNs A → nYa N j < aNy A) ∧ (∀ j, j < aNs A → ∀ k, k < aNs A → nYa N j = nYa N k → j = k) ∧ (∀ p, p < aNp A → nCl N p < 2 ^ aNs A)
def TRel (t : cT) (A : aT) : Prop := tYards t = nI (aNy A) ∧ tSight t = nI (aSi A) ∧ tStatues t = nI (aNs A) ∧ tPeople t = nI (aNp A) ∧ (∀ j, j < aNs A → tWeight t j = nI (aWe A j) ∧ tInsult t j = nI (aIn A j) ∧ tInsulted t j = nI (nmask (aNp A) (fun p => (aWg A p).testBit (aIn A j)))) ∧ (∀ p, p < aNp A → tHome t p = nI (aHo A p) ∧ tStrong t p = nI (aSt A p) ∧ tCredit t p = nI (aCr A p) ∧ tWrongs t p = nI (aWg A p))
def NRel (A : aT) (n : cN) (N : aN) : Prop := nCome n = nI (nCo N) ∧ (∀ j, j < aNs A → nYardOf n j = nI (nYa N j)) ∧ (∀ j, j < 6 → nClaimed n j = nI (nmask (aNp A) (fun p => (nCl N p).testBit j)))
/-- the people who are wronged by a statue -/
def aWr (A : aT) (N : aN) (j : Nat) : Nat := nmask (aNp A) (fun p => (aWg A p).testBit (aIn A j) || (nCl N p).testBit j)
def aSum (f : aF) (set : Nat) : Nat → Nat
  | 0 => 0
  | n + 1 => aSum f set n + bif set.testBit n then f n else 0
def aStr (A : aT) (set : Nat) : Nat := aSum (aSt A) set (aNp A)
def aPull (A : aT) (N : aN) (j : Nat) : Nat := aStr A (aWr A N j &&& nCo N)
def aMov (A : aT) (N : aN) (j : Nat) : Bool := decide (aWe A j ≤ aPull A N j)
/-- who stands in a yard -/
def aFst (f : aF) (y : Int32) : Nat → Nat → Int32
  | 0, _ => -9
  | n + 1, j => if nI (f j) = y then nI j else aFst f y n (j + 1)
def aSin (A : aT) (N : aN) (y : Int32) : Int32 := aFst (nYa N) y (aNs A) 0
def inb (x : Int32) (n : Nat) : Bool := !decide (x < 0) && decide (x < nI n)
theorem inb_nI {j n : Nat} (h : j < n) (hn : n < 2 ^ 31) : inb (nI j) n = true := by
  unfold inb
  simp [nI_pos (show j < 2 ^ 31 by omega), nI_lt h hn]
theorem inb_of {x : Int32} {n : Nat} (h : inb x n = true) (hn : n < 2 ^ 31) : ∃ j, j < n ∧ x = nI j := by
  unfold inb at h
  simp only [Bool.and_eq_true, Bool.not_eq_true', decide_eq_true_eq, decide_eq_false_iff_not] at h
  obtain ⟨j, hj, rfl⟩ := nI_of h.1
  exact ⟨j, (nI_ltI hj hn).mp h.2, rfl⟩
theorem aWr_lt {A : aT} (hA : TWf A) (N : aN) (j : Nat) : aWr A N j < 64 := nmask_lt64 hA.2.2.2.2.1 _
theorem aSum_le {f : aF} {set : Nat} : ∀ n, (∀ p, p < n → f p ≤ 9) → aSum f set n ≤ 9 * n
  | 0, _ => by simp [aSum]
  | n + 1, h => by
    have := aSum_le (set := set) n (fun p hp => h p (by omega))
    have h2 := h n (by omega)
    rw [aSum]
    cases set.testBit n <;> simp <;> omega
theorem aStr_le {A : aT} (hA : TWf A) (set : Nat) : aStr A set ≤ 54 := by
  have := aSum_le (f := aSt A) (set := set) (aNp A) (fun p hp => (hA.2.2.2.2.2.2 p hp).2.2.1)
  have h2 := hA.2.2.2.2.1
  unfold aStr
  omega
