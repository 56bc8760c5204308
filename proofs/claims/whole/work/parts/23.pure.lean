/-! ===== small sets as numbers below 64 ===== -/
def nmask : Nat → (Nat → Bool) → Nat
  | 0, _ => 0
  | n + 1, b => nmask n b + bif b n then 2 ^ n else 0
theorem nmask_lt (b : Nat → Bool) : ∀ n, nmask n b < 2 ^ n
  | 0 => by simp [nmask]
  | n + 1 => by
    have := nmask_lt b n
    rw [nmask, Nat.pow_succ]
    cases b n <;> simp <;> omega
theorem nmask_bit (b : Nat → Bool) (p : Nat) : ∀ n, (nmask n b).testBit p = (decide (p < n) && b p)
  | 0 => by simp [nmask]
  | n + 1 => by
    have ih := nmask_bit b p n
    have hl := nmask_lt b n
    rw [nmask]
    by_cases hp : p = n
    · subst hp
      have h0 : (nmask p b).testBit p = false := Nat.testBit_lt_two_pow hl
      cases hb : b p with
      | false => simp [h0]
      | true =>
        simp only [cond_true]
        rw [Nat.add_comm, Nat.testBit_two_pow_add_eq, h0]
        simp
    · have hd : decide (p < n + 1) = decide (p < n) := by
        apply decide_eq_decide.mpr
        omega
      rw [hd, ← ih]
      cases hb : b n with
      | false => simp
      | true =>
        simp only [cond_true]
        rcases Nat.lt_or_gt_of_ne hp with h | h
        · rw [Nat.add_comm, Nat.testBit_two_pow_add_gt h]
        · have h1 : nmask n b + 2 ^ n < 2 ^ p := by
            have : 2 ^ (n + 1) ≤ 2 ^ p := Nat.pow_le_pow_right (by decide) h
            rw [Nat.pow_succ] at this
            omega
          rw [Nat.testBit_lt_two_pow h1, Nat.testBit_lt_two_pow (by omega)]
theorem nmask_congr {b b' : Nat → Bool} : ∀ n, (∀ p, p < n → b p = b' p) → nmask n b = nmask n b'
  | 0, _ => rfl
  | n + 1, h => by rw [nmask, nmask, nmask_congr n (fun p hp => h p (by omega)), h n (by omega)]
theorem nmask_eq {n x : Nat} (hx : x < 2 ^ n) {b : Nat → Bool} (h : ∀ p, p < n → b p = x.testBit p) : nmask n b = x := by
  apply Nat.eq_of_testBit_eq
  intro p
  rw [nmask_bit]
  by_cases hp : p < n
  · simp [hp, h p hp]
  · rw [Nat.testBit_lt_two_pow (Nat.lt_of_lt_of_le hx (Nat.pow_le_pow_right (by decide) (by omega)))]
    simp [hp]
theorem pow_le64 {n : Nat} (h : n ≤ 6) : 2 ^ n ≤ 64 := Nat.pow_le_pow_right (n := 2) (by decide) h
theorem nmask_lt64 {n : Nat} (h : n ≤ 6) (b : Nat → Bool) : nmask n b < 64 := Nat.lt_of_lt_of_le (nmask_lt b n) (pow_le64 h)
theorem nmask_or (n : Nat) (b b' : Nat → Bool) : nmask n b ||| nmask n b' = nmask n (fun p => b p || b' p) := by
  apply Nat.eq_of_testBit_eq
  intro p
  rw [Nat.testBit_or, nmask_bit, nmask_bit, nmask_bit]
  cases decide (p < n) <;> simp
def pop (a : Nat) : Nat := (a.testBit 0).toNat + (a.testBit 1).toNat + (a.testBit 2).toNat + (a.testBit 3).toNat + (a.testBit 4).toNat + (a.testBit 5).toNat
theorem q_has : ∀ a, a < 64 → ∀ p, p < 6 → zhas (nI a) (nI p) = a.testBit p := by decide +kernel
theorem q_and : ∀ a, a < 64 → ∀ b, b < 64 → nI a &&& nI b = nI (a &&& b) := by decide +kernel
theorem q_or : ∀ a, a < 64 → ∀ b, b < 64 → nI a ||| nI b = nI (a ||| b) := by decide +kernel
theorem q_andn : ∀ a, a < 64 → ∀ b, b < 64 → nI a &&& (nI b ^^^ (-1)) = nI (a &&& (63 ^^^ b)) := by decide +kernel
theorem q_shl : ∀ p, p < 12 → (1 : Int32) <<< (nI p &&& 31) = nI (2 ^ p) := by decide +kernel
theorem q_shr1 : ∀ a, a < 64 → ∀ p, p < 6 → (nI a >>> (nI p &&& 31)) &&& 1 = nI ((a.testBit p).toNat) := by decide +kernel
theorem q_and_lt {a b : Nat} (h : a < 64) : a &&& b < 64 := Nat.lt_of_le_of_lt Nat.and_le_left h
theorem q_or_lt : ∀ a, a < 64 → ∀ b, b < 64 → a ||| b < 64 := by decide +kernel
/-- the JDK's count of bits -/
def jbc (x : Int32) : Int32 :=
  let a := x - ((x.toUInt32 >>> (Int32.toUInt32 1 &&& Int32.toUInt32 31)).toInt32 &&& 1431655765)
  let b := (a &&& 858993459) + ((a.toUInt32 >>> (Int32.toUInt32 2 &&& Int32.toUInt32 31)).toInt32 &&& 858993459)
  let c := (b + (b.toUInt32 >>> (Int32.toUInt32 4 &&& Int32.toUInt32 31)).toInt32) &&& 252645135
  let e := c + (c.toUInt32 >>> (Int32.toUInt32 8 &&& Int32.toUInt32 31)).toInt32
  let g := e + (e.toUInt32 >>> (Int32.toUInt32 16 &&& Int32.toUInt32 31)).toInt32
  g &&& 63
theorem q_jbc : ∀ a, a < 64 → jbc (nI a) = nI (pop a) := by decide +kernel
theorem j_bc (S : zS) (d : Nat) (h : zH) (x : Int32) : Ex S (d + 1) 0 0 150 [.int x] h (some (.int (jbc x))) h := by
  (refine exI rfl rfl ?_; intro X hX)
  repeat refine hX _ _ _ _ _ _ _ _ _ _ _ _ _ _ rfl ?_
  exact ⟨rfl, rfl⟩
theorem j_bcN (S : zS) (d : Nat) (h : zH) {a : Nat} (ha : a < 64) : Ex S (d + 1) 0 0 150 [.int (nI a)] h (some (.int (nI (pop a)))) h := by
  have := j_bc S d h (nI a)
  rwa [q_jbc a ha] at this
/-! the reference's count of bits -/
theorem q_low : ∀ a, a < 64 → 0 < a → nI a &&& (nI a - 1) = nI (a &&& (a - 1)) ∧ (a &&& (a - 1)) < a ∧ pop a = pop (a &&& (a - 1)) + 1 := by decide +kernel
theorem m_ones (S : zS) (d : Nat) (h : zH) {a : Nat} (ha : a < 64) : Ex S (d + 1) 0 0 93 [.int (nI a)] h (some (.int (nI (pop a)))) h := by
  (refine exI rfl rfl ?_; intro X hX)
  have loop : ∀ (n b k : Nat), b ≤ n → b < 64 → k + pop b = pop a → X 4 [some (.int (nI a)), some (.int (nI k)), some (.int (nI b))] [] h 0 0 := by
    intro n
    induction n with
    | zero =>
      intro b k hb _ hk
      have hb : b = 0 := by omega
      subst hb
      repeat refine hX _ _ _ _ _ _ _ _ _ _ _ _ _ _ rfl ?_
      refine br_t (show nI 0 = 0 from rfl) ?_
      repeat refine hX _ _ _ _ _ _ _ _ _ _ _ _ _ _ rfl ?_
      exact ⟨by rw [← hk]; rfl, rfl⟩
    | succ n ih =>
      intro b k hb hb64 hk
      by_cases h0 : b = 0
      · subst h0
        repeat refine hX _ _ _ _ _ _ _ _ _ _ _ _ _ _ rfl ?_
        refine br_t (show nI 0 = 0 from rfl) ?_
        repeat refine hX _ _ _ _ _ _ _ _ _ _ _ _ _ _ rfl ?_
        exact ⟨by rw [← hk]; rfl, rfl⟩
      · obtain ⟨e1, e2, e3⟩ := q_low b hb64 (by omega)
        repeat refine hX _ _ _ _ _ _ _ _ _ _ _ _ _ _ rfl ?_
        refine br_f (show ¬ nI b = 0 from nI_ne0 (by omega) (by omega)) ?_
        iterate 8 (refine hX _ _ _ _ _ _ _ _ _ _ _ _ _ _ rfl ?_)
        rw [e1, nI_1]
        exact ih (b &&& (b - 1)) (k + 1) (by omega) (by omega) (by omega)
  iterate 4 (refine hX _ _ _ _ _ _ _ _ _ _ _ _ _ _ rfl ?_)
  exact loop a a 0 (Nat.le_refl _) ha (by omega)
