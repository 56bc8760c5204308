theorem c_hasStatue (S : zS) (d : Nat) (sw : Bool) (c : cS) (hm : List zC) {n : Nat} (hn : tStatues (cTo c) = nI n) (x : Int32) : Ex S (d + 1) 0 0 28 [.ref (toR sw), .int x] (hC sw c, hm) (some (.int (b2i (inb x n)))) (hC sw c, hm) := by
  cases sw
  all_goals
    (refine exI rfl rfl ?_; intro X hX)
    repeat refine hX _ _ _ _ _ _ _ _ _ _ _ _ _ _ rfl ?_
    refine ⟨fun hc => ?_, fun hc => ?_⟩
    · have hc : x < 0 := hc
      repeat refine hX _ _ _ _ _ _ _ _ _ _ _ _ _ _ rfl ?_
      exact ⟨Or.inl rfl, by simp [inb, hc, b2i], rfl⟩
    · have hc : ¬ x < 0 := hc
      repeat refine hX _ _ _ _ _ _ _ _ _ _ _ _ _ _ rfl ?_
      rw [hn]
      refine ⟨fun h2 => ?_, fun h2 => ?_⟩
      · have h2 : ¬ x < nI n := Int32.not_lt.mpr h2
        repeat refine hX _ _ _ _ _ _ _ _ _ _ _ _ _ _ rfl ?_
        exact ⟨Or.inl rfl, by simp [inb, hc, h2, b2i], rfl⟩
      · have h2 : x < nI n := Int32.not_le.mp h2
        repeat refine hX _ _ _ _ _ _ _ _ _ _ _ _ _ _ rfl ?_
        exact ⟨Or.inr rfl, by simp [inb, hc, h2, b2i], rfl⟩
theorem c_hasOne (S : zS) (d : Nat) (sw : Bool) (c : cS) (hm : List zC) {n : Nat} (hn : tPeople (cTo c) = nI n) (x : Int32) : Ex S (d + 1) 0 0 29 [.ref (toR sw), .int x] (hC sw c, hm) (some (.int (b2i (inb x n)))) (hC sw c, hm) := by
  cases sw
  all_goals
    (refine exI rfl rfl ?_; intro X hX)
    repeat refine hX _ _ _ _ _ _ _ _ _ _ _ _ _ _ rfl ?_
    refine ⟨fun hc => ?_, fun hc => ?_⟩
    · have hc : x < 0 := hc
      repeat refine hX _ _ _ _ _ _ _ _ _ _ _ _ _ _ rfl ?_
      exact ⟨Or.inl rfl, by simp [inb, hc, b2i], rfl⟩
    · have hc : ¬ x < 0 := hc
      repeat refine hX _ _ _ _ _ _ _ _ _ _ _ _ _ _ rfl ?_
      rw [hn]
      refine ⟨fun h2 => ?_, fun h2 => ?_⟩
      · have h2 : ¬ x < nI n := Int32.not_lt.mpr h2
        repeat refine hX _ _ _ _ _ _ _ _ _ _ _ _ _ _ rfl ?_
        exact ⟨Or.inl rfl, by simp [inb, hc, h2, b2i], rfl⟩
      · have h2 : x < nI n := Int32.not_le.mp h2
        repeat refine hX _ _ _ _ _ _ _ _ _ _ _ _ _ _ rfl ?_
        exact ⟨Or.inr rfl, by simp [inb, hc, h2, b2i], rfl⟩
theorem c_hasYard (S : zS) (d : Nat) (sw : Bool) (c : cS) (hm : List zC) {n : Nat} (hn : tYards (cTo c) = nI n) (x : Int32) : Ex S (d + 1) 0 0 30 [.ref (toR sw), .int x] (hC sw c, hm) (some (.int (b2i (inb x n)))) (hC sw c, hm) := by
  cases sw
  all_goals
    (refine exI rfl rfl ?_; intro X hX)
    repeat refine hX _ _ _ _ _ _ _ _ _ _ _ _ _ _ rfl ?_
    refine ⟨fun hc => ?_, fun hc => ?_⟩
    · have hc : x < 0 := hc
      repeat refine hX _ _ _ _ _ _ _ _ _ _ _ _ _ _ rfl ?_
      exact ⟨Or.inl rfl, by simp [inb, hc, b2i], rfl⟩
    · have hc : ¬ x < 0 := hc
      repeat refine hX _ _ _ _ _ _ _ _ _ _ _ _ _ _ rfl ?_
      rw [hn]
      refine ⟨fun h2 => ?_, fun h2 => ?_⟩
      · have h2 : ¬ x < nI n := Int32.not_lt.mpr h2
        repeat refine hX _ _ _ _ _ _ _ _ _ _ _ _ _ _ rfl ?_
        exact ⟨Or.inl rfl, by simp [inb, hc, h2, b2i], rfl⟩
      · have h2 : x < nI n := Int32.not_le.mp h2
        repeat refine hX _ _ _ _ _ _ _ _ _ _ _ _ _ _ rfl ?_
        exact ⟨Or.inr rfl, by simp [inb, hc, h2, b2i], rfl⟩
section CR
variable (S : zS) (d : Nat) (sw : Bool) (c : cS) (hm : List zC) {A : aT} {N : aN} (hA : TWf A) (hT : TRel (cTo c) A) (hW : NWf A N) (hN : NRel A (cSc c) N)
theorem nCo_lt {A : aT} {N : aN} (hA : TWf A) (hW : NWf A N) : nCo N < 64 := Nat.lt_of_lt_of_le hW.1 (pow_le64 hA.2.2.2.2.1)
theorem c_pullersAt (S : zS) (d : Nat) (sw : Bool) (c : cS) (hm : List zC) {A : aT} {N : aN} (hA : TWf A) (hT : TRel (cTo c) A) (hW : NWf A N) (hN : NRel A (cSc c) N) {j : Nat} (hj : j < aNs A) : Ex S (d + 2) 0 0 64 [.ref 0, .int (nI j)] (hC sw c, hm) (some (.int (nI (aWr A N j &&& nCo N)))) (hC sw c, hm) := by
  have hw := c_wr S d sw c hm hA hT hN hj
  have h1 := aWr_lt hA N j
  have h2 := nCo_lt hA hW
  obtain ⟨hc, -, -⟩ := hN
  cases sw
  all_goals
    (refine exI rfl rfl ?_; intro X hX)
    repeat refine hX _ _ _ _ _ _ _ _ _ _ _ _ _ _ rfl ?_
    refine Or.inl ⟨_, _, hw, ?_⟩
    repeat refine hX _ _ _ _ _ _ _ _ _ _ _ _ _ _ rfl ?_
    rw [hc, q_and _ h1 _ h2]
    exact ⟨rfl, rfl⟩
theorem c_pullAt (S : zS) (d : Nat) (sw : Bool) (c : cS) (hm : List zC) {A : aT} {N : aN} (hA : TWf A) (hT : TRel (cTo c) A) (hW : NWf A N) (hN : NRel A (cSc c) N) {j : Nat} (hj : j < aNs A) : Ex S (d + 3) 0 0 65 [.ref 0, .int (nI j)] (hC sw c, hm) (some (.int (nI (aPull A N j)))) (hC sw c, hm) := by
  have hp := c_pullersAt S d sw c hm hA hT hW hN hj
  have hs := c_strengthOf S d sw c hm hA hT (set := aWr A N j &&& nCo N) (q_and_lt (aWr_lt hA N j))
  cases sw
  all_goals
    (refine exI rfl rfl ?_; intro X hX)
    repeat refine hX _ _ _ _ _ _ _ _ _ _ _ _ _ _ rfl ?_
    refine Or.inl ⟨_, _, hp, ?_⟩
    repeat refine hX _ _ _ _ _ _ _ _ _ _ _ _ _ _ rfl ?_
    refine Or.inl ⟨_, _, hs, ?_⟩
    repeat refine hX _ _ _ _ _ _ _ _ _ _ _ _ _ _ rfl ?_
    exact ⟨rfl, rfl⟩
theorem c_moves (S : zS) (d : Nat) (sw : Bool) (c : cS) (hm : List zC) {A : aT} {N : aN} (hA : TWf A) (hT : TRel (cTo c) A) (hW : NWf A N) (hN : NRel A (cSc c) N) {j : Nat} (hj : j < aNs A) : Ex S (d + 4) 0 0 66 [.ref 0, .int (nI j)] (hC sw c, hm) (some (.int (b2i (aMov A N j)))) (hC sw c, hm) := by
  have hp := c_pullAt S d sw c hm hA hT hW hN hj
  have hns := hA.2.2.2.1
  have h3 := (hA.2.2.2.2.2.1 j hj).2.1
  have h4 : aPull A N j ≤ 54 := aStr_le hA _
  have h5 := (hT.2.2.2.2.1 j hj).1
  cases sw
  all_goals
    (refine exI rfl rfl ?_; intro X hX)
    repeat refine hX _ _ _ _ _ _ _ _ _ _ _ _ _ _ rfl ?_
    refine Or.inl ⟨_, _, hp, ?_⟩
    repeat refine hX _ _ _ _ _ _ _ _ _ _ _ _ _ _ rfl ?_
    refine ⟨vp_in_nI (by omega) (by decide), ?_⟩
    rw [nI_clamp (by omega)]
    rw [h5]
    repeat refine hX _ _ _ _ _ _ _ _ _ _ _ _ _ _ rfl ?_
    refine ⟨fun hc => ?_, fun hc => ?_⟩
    · have hc : ¬ aWe A j ≤ aPull A N j := by have := (nI_ltI (by omega) (by omega)).mp (show nI (aPull A N j) < nI (aWe A j) from hc); omega
      repeat refine hX _ _ _ _ _ _ _ _ _ _ _ _ _ _ rfl ?_
      exact ⟨Or.inl rfl, by simp [aMov, hc, b2i], rfl⟩
    · have hc : aWe A j ≤ aPull A N j := Nat.not_lt.mp fun h9 => hc (nI_lt h9 (by omega))
      repeat refine hX _ _ _ _ _ _ _ _ _ _ _ _ _ _ rfl ?_
      exact ⟨Or.inr rfl, by simp [aMov, hc, b2i], rfl⟩
theorem c_statueIn (S : zS) (d : Nat) (sw : Bool) (c : cS) (hm : List zC) {A : aT} {N : aN} (hA : TWf A) (hT : TRel (cTo c) A) (hN : NRel A (cSc c) N) (y : Int32) : Ex S (d + 1) 0 0 69 [.ref 0, .int y] (hC sw c, hm) (some (.int (aSin A N y))) (hC sw c, hm) := by
  have hns := hA.2.2.2.1
  obtain ⟨-, -, hn, -, -, -⟩ := hT
  obtain ⟨-, hy, -⟩ := hN
  cases sw
  case false =>
    (refine exI rfl rfl ?_; intro X hX)
    have loop : ∀ (k j : Nat), j + k = aNs A → aFst (nYa N) y k j = aSin A N y → X 2 [some (.ref 0), some (.int y), some (.int (nI j))] [] (hC false c, hm) 0 0 := by
      intro k
      induction k with
      | zero =>
        intro j hj he
        repeat refine hX _ _ _ _ _ _ _ _ _ _ _ _ _ _ rfl ?_
        rw [hn]
        refine br_t (show nI (aNs A) ≤ nI j from nI_le (by omega) (by omega)) ?_
        repeat refine hX _ _ _ _ _ _ _ _ _ _ _ _ _ _ rfl ?_
        exact ⟨by rw [← he]; rfl, rfl⟩
      | succ k ih =>
        intro j hj he
        repeat refine hX _ _ _ _ _ _ _ _ _ _ _ _ _ _ rfl ?_
        rw [hn]
        refine br_f (show ¬ nI (aNs A) ≤ nI j from nI_ge (by omega) (by omega)) ?_
        repeat refine hX _ _ _ _ _ _ _ _ _ _ _ _ _ _ rfl ?_
        refine ⟨vp_in_nI (by omega) (by decide), ?_⟩
        rw [nI_clamp (by omega)]
        rw [hy j (by omega)]
        repeat refine hX _ _ _ _ _ _ _ _ _ _ _ _ _ _ rfl ?_
        rw [aFst] at he
        refine ⟨fun hc => ?_, fun hc => ?_⟩
        · rw [if_neg (show ¬ nI (nYa N j) = y from hc)] at he
          iterate 2 (refine hX _ _ _ _ _ _ _ _ _ _ _ _ _ _ rfl ?_)
          rw [nI_1]
          exact ih (j + 1) (by omega) he
        · rw [if_pos (show nI (nYa N j) = y from Classical.not_not.mp hc)] at he
          repeat refine hX _ _ _ _ _ _ _ _ _ _ _ _ _ _ rfl ?_
          exact ⟨by rw [← he], rfl⟩
    iterate 2 (refine hX _ _ _ _ _ _ _ _ _ _ _ _ _ _ rfl ?_)
    exact loop (aNs A) 0 (by omega) rfl
  case true =>
    (refine exI rfl rfl ?_; intro X hX)
    have loop : ∀ (k j : Nat), j + k = aNs A → aFst (nYa N) y k j = aSin A N y → X 2 [some (.ref 0), some (.int y), some (.int (nI j))] [] (hC true c, hm) 0 0 := by
      intro k
      induction k with
      | zero =>
        intro j hj he
        repeat refine hX _ _ _ _ _ _ _ _ _ _ _ _ _ _ rfl ?_
        rw [hn]
        refine br_t (show nI (aNs A) ≤ nI j from nI_le (by omega) (by omega)) ?_
        repeat refine hX _ _ _ _ _ _ _ _ _ _ _ _ _ _ rfl ?_
        exact ⟨by rw [← he]; rfl, rfl⟩
      | succ k ih =>
        intro j hj he
        repeat refine hX _ _ _ _ _ _ _ _ _ _ _ _ _ _ rfl ?_
        rw [hn]
        refine br_f (show ¬ nI (aNs A) ≤ nI j from nI_ge (by omega) (by omega)) ?_
        repeat refine hX _ _ _ _ _ _ _ _ _ _ _ _ _ _ rfl ?_
        refine ⟨vp_in_nI (by omega) (by decide), ?_⟩
        rw [nI_clamp (by omega)]
        rw [hy j (by omega)]
        repeat refine hX _ _ _ _ _ _ _ _ _ _ _ _ _ _ rfl ?_
        rw [aFst] at he
        refine ⟨fun hc => ?_, fun hc => ?_⟩
        · rw [if_neg (show ¬ nI (nYa N j) = y from hc)] at he
          iterate 2 (refine hX _ _ _ _ _ _ _ _ _ _ _ _ _ _ rfl ?_)
          rw [nI_1]
          exact ih (j + 1) (by omega) he
        · rw [if_pos (show nI (nYa N j) = y from Classical.not_not.mp hc)] at he
          repeat refine hX _ _ _ _ _ _ _ _ _ _ _ _ _ _ rfl ?_
          exact ⟨by rw [← he], rfl⟩
    iterate 2 (refine hX _ _ _ _ _ _ _ _ _ _ _ _ _ _ rfl ?_)
    exact loop (aNs A) 0 (by omega) rfl
theorem c_timesB (S : zS) (d : Nat) (sw : Bool) (c : cS) (hm : List zC) {A : aT} {N : aN} (hA : TWf A) (hN : NRel A (cSc c) N) {p : Nat} (hp : p < aNp A) : Ex S (d + 2) 0 0 25 [.ref 21, .int (nI p)] (hC sw c, hm) (some (.int (nI (pop (nCl N p))))) (hC sw c, hm) := by
  have hnp := hA.2.2.2.2.1
  obtain ⟨-, -, hl⟩ := hN
  cases sw
  case false =>
    (refine exI rfl rfl ?_; intro X hX)
    have loop : ∀ (k j : Nat), j + k = 6 → X 4 [some (.ref 21), some (.int (nI p)), some (.int (nI (aCnt (fun s => (nCl N p).testBit s) j))), some (.int (nI j))] [] (hC false c, hm) 0 0 := by
      intro k
      induction k with
      | zero =>
        intro j hj
        repeat refine hX _ _ _ _ _ _ _ _ _ _ _ _ _ _ rfl ?_
        refine br_t (show nI 6 ≤ nI j from nI_le (by omega) (by omega)) ?_
        repeat refine hX _ _ _ _ _ _ _ _ _ _ _ _ _ _ rfl ?_
        exact ⟨by rw [show j = 6 by omega, pop_cnt], rfl⟩
      | succ k ih =>
        intro j hj
        repeat refine hX _ _ _ _ _ _ _ _ _ _ _ _ _ _ rfl ?_
        refine br_f (show ¬ nI 6 ≤ nI j from nI_ge (by omega) (by omega)) ?_
        repeat refine hX _ _ _ _ _ _ _ _ _ _ _ _ _ _ rfl ?_
        refine ⟨vp_in_nI (by omega) (by decide), ?_⟩
        rw [nI_clamp (by omega)]
        rw [hl j (by omega)]
        repeat refine hX _ _ _ _ _ _ _ _ _ _ _ _ _ _ rfl ?_
        refine Or.inl ⟨_, _, c_hasX S d _ (nmask_lt64 hnp _) (by omega), ?_⟩
        rw [nmask_bit]
        simp only [hp, decide_true, Bool.true_and]
        repeat refine hX _ _ _ _ _ _ _ _ _ _ _ _ _ _ rfl ?_
        have h7 := ih (j + 1) (by omega)
        rw [aCnt] at h7
        cases hb : (nCl N p).testBit j with
        | false =>
          refine br_t (show b2i false = 0 from rfl) ?_
          iterate 2 (refine hX _ _ _ _ _ _ _ _ _ _ _ _ _ _ rfl ?_)
          rw [nI_1]
          rw [hb] at h7
          exact h7
        | true =>
          refine br_f (show ¬ b2i true = 0 by decide) ?_
          iterate 3 (refine hX _ _ _ _ _ _ _ _ _ _ _ _ _ _ rfl ?_)
          rw [nI_1, nI_1]
          rw [hb] at h7
          exact h7
    iterate 4 (refine hX _ _ _ _ _ _ _ _ _ _ _ _ _ _ rfl ?_)
    exact loop 6 0 (by omega)
  case true =>
    (refine exI rfl rfl ?_; intro X hX)
    have loop : ∀ (k j : Nat), j + k = 6 → X 4 [some (.ref 21), some (.int (nI p)), some (.int (nI (aCnt (fun s => (nCl N p).testBit s) j))), some (.int (nI j))] [] (hC true c, hm) 0 0 := by
      intro k
      induction k with
      | zero =>
        intro j hj
        repeat refine hX _ _ _ _ _ _ _ _ _ _ _ _ _ _ rfl ?_
        refine br_t (show nI 6 ≤ nI j from nI_le (by omega) (by omega)) ?_
        repeat refine hX _ _ _ _ _ _ _ _ _ _ _ _ _ _ rfl ?_
        exact ⟨by rw [show j = 6 by omega, pop_cnt], rfl⟩
      | succ k ih =>
        intro j hj
        repeat refine hX _ _ _ _ _ _ _ _ _ _ _ _ _ _ rfl ?_
        refine br_f (show ¬ nI 6 ≤ nI j from nI_ge (by omega) (by omega)) ?_
        repeat refine hX _ _ _ _ _ _ _ _ _ _ _ _ _ _ rfl ?_
        refine ⟨vp_in_nI (by omega) (by decide), ?_⟩
        rw [nI_clamp (by omega)]
        rw [hl j (by omega)]
        repeat refine hX _ _ _ _ _ _ _ _ _ _ _ _ _ _ rfl ?_
        refine Or.inl ⟨_, _, c_hasX S d _ (nmask_lt64 hnp _) (by omega), ?_⟩
        rw [nmask_bit]
        simp only [hp, decide_true, Bool.true_and]
        repeat refine hX _ _ _ _ _ _ _ _ _ _ _ _ _ _ rfl ?_
        have h7 := ih (j + 1) (by omega)
        rw [aCnt] at h7
        cases hb : (nCl N p).testBit j with
        | false =>
          refine br_t (show b2i false = 0 from rfl) ?_
          iterate 2 (refine hX _ _ _ _ _ _ _ _ _ _ _ _ _ _ rfl ?_)
          rw [nI_1]
          rw [hb] at h7
          exact h7
        | true =>
          refine br_f (show ¬ b2i true = 0 by decide) ?_
          iterate 3 (refine hX _ _ _ _ _ _ _ _ _ _ _ _ _ _ rfl ?_)
          rw [nI_1, nI_1]
          rw [hb] at h7
          exact h7
    iterate 4 (refine hX _ _ _ _ _ _ _ _ _ _ _ _ _ _ rfl ?_)
    exact loop 6 0 (by omega)
end CR
