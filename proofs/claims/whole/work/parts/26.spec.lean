/-! ===== more of what is asked of a town ===== -/
theorem nI_or (a b : Nat) : nI a ||| nI b = nI (a ||| b) := by
  apply Int32.toBitVec_inj.mp
  show (nI a).toBitVec ||| (nI b).toBitVec = (nI (a ||| b)).toBitVec
  show BitVec.ofNat 32 a ||| BitVec.ofNat 32 b = BitVec.ofNat 32 (a ||| b)
  exact (BitVec.ofNat_or).symm
theorem nmask_set (b : Nat → Bool) (n : Nat) : nmask n b ||| 2 ^ n = nmask n b + 2 ^ n := by
  rw [Nat.or_comm, Nat.add_comm]
  have := Nat.two_pow_add_eq_or_of_lt (nmask_lt b n) 1
  rw [Nat.mul_one] at this
  exact this.symm
def aCnt (b : Nat → Bool) : Nat → Nat
  | 0 => 0
  | n + 1 => aCnt b n + (b n).toNat
theorem aCnt_le (b : Nat → Bool) : ∀ n, aCnt b n ≤ n
  | 0 => by simp [aCnt]
  | n + 1 => by
    have := aCnt_le b n
    rw [aCnt]
    cases b n <;> simp <;> omega
theorem aCnt_congr {b b' : Nat → Bool} : ∀ n, (∀ p, p < n → b p = b' p) → aCnt b n = aCnt b' n
  | 0, _ => rfl
  | n + 1, h => by rw [aCnt, aCnt, aCnt_congr n (fun p hp => h p (by omega)), h n (by omega)]
theorem pop_cnt (x : Nat) : aCnt (fun s => x.testBit s) 6 = pop x := by
  simp only [aCnt, pop]
  omega
def aNear (a b s : Nat) : Bool := decide (a ≤ b + s) && decide (b ≤ a + s)
def jabs (x : Int32) : Int32 := if 0 ≤ x then x else -x
theorem q_near : ∀ a, a < 10 → ∀ b, b < 10 → ∀ s, s < 4 → decide (nI s < jabs (nI a - nI b)) = !aNear a b s := by decide +kernel
theorem j_abs (S : zS) (d : Nat) (h : zH) (x : Int32) : Ex S (d + 1) 0 0 151 [.int x] h (some (.int (jabs x))) h := by
  (refine exI rfl rfl ?_; intro X hX)
  repeat refine hX _ _ _ _ _ _ _ _ _ _ _ _ _ _ rfl ?_
  refine ⟨fun hc => ?_, fun hc => ?_⟩
  · have hc : 0 ≤ x := hc
    repeat refine hX _ _ _ _ _ _ _ _ _ _ _ _ _ _ rfl ?_
    exact ⟨by rw [jabs, if_pos hc], rfl⟩
  · have hc : ¬ 0 ≤ x := hc
    repeat refine hX _ _ _ _ _ _ _ _ _ _ _ _ _ _ rfl ?_
    exact ⟨by rw [jabs, if_neg hc], rfl⟩
/-- how many a statue offends in a yard -/
def aOff (A : aT) (N : aN) (j y : Nat) : Nat := aCnt (fun p => (aWr A N j).testBit p && aNear (aHo A p) y (aSi A)) (aNp A)
theorem aOff_le {A : aT} (hA : TWf A) (N : aN) (j y : Nat) : aOff A N j y ≤ 6 := Nat.le_trans (aCnt_le _ _) hA.2.2.2.2.1
def sel (w : Int32) (e : Int32) : List (Int32 × Int32) → Int32
  | [] => e
  | (x, v) :: r => if w = x then v else sel w e r
/-- may a statue stand there -/
def aCan (A : aT) (N : aN) (j y : Nat) : Bool := decide (aSin A N (nI y) = -9) || decide (nYa N j = y)
def aPlc (A : aT) (N : aN) (j : Nat) : Nat → Nat × Nat
  | 0 => (nYa N j, 7)
  | y + 1 => bif aCan A N j y && decide (aOff A N j y < (aPlc A N j y).2) then (y, aOff A N j y) else aPlc A N j y
def aEmp (A : aT) (N : aN) : Nat := nmask (aNy A) (fun y => decide (aSin A N (nI y) = -9))
def aMvs (A : aT) (N : aN) : Nat := nmask (aNs A) (aMov A N)
theorem aFst_cases {f : aF} {y : Int32} : ∀ (n j : Nat), aFst f y n j = -9 ∨ ∃ k, j ≤ k ∧ k < j + n ∧ aFst f y n j = nI k ∧ nI (f k) = y
  | 0, _ => Or.inl rfl
  | n + 1, j => by
    rw [aFst]
    by_cases h : nI (f j) = y
    · rw [if_pos h]
      exact Or.inr ⟨j, Nat.le_refl _, by omega, rfl, h⟩
    · rw [if_neg h]
      rcases aFst_cases (f := f) (y := y) n (j + 1) with h1 | ⟨k, h1, h2, h3, h4⟩
      · exact Or.inl h1
      · exact Or.inr ⟨k, by omega, by omega, h3, h4⟩
theorem aFst_none {f : aF} {y : Int32} : ∀ (n j : Nat), j + n ≤ 100 → aFst f y n j = -9 → ∀ k, j ≤ k → k < j + n → ¬ nI (f k) = y
  | 0, _, _, _, k, h1, h2 => by omega
  | n + 1, j, hl, h, k, h1, h2 => by
    rw [aFst] at h
    by_cases hj : nI (f j) = y
    · rw [if_pos hj] at h
      have : ∀ j, j < 100 → ¬ nI j = -9 := by decide +kernel
      exact absurd h (this j (by omega))
    · rw [if_neg hj] at h
      by_cases hk : k = j
      · rw [hk]; exact hj
      · exact aFst_none n (j + 1) (by omega) h k (by omega) (by omega)
theorem n9 : ∀ j, j < 100 → ¬ nI j = -9 := by decide +kernel
