theorem c_offIn (S : zS) (d : Nat) (sw : Bool) (c : cS) (hm : List zC) {A : aT} {N : aN} (hA : TWf A) (hT : TRel (cTo c) A) (hN : NRel A (cSc c) N) {j y : Nat} (hj : j < aNs A) (hy : y < 10) : Ex S (d + 2) 0 0 72 [.ref 0, .int (nI j), .int (nI y)] (hC sw c, hm) (some (.int (nI (aOff A N j y)))) (hC sw c, hm) := by
  have hnp := hA.2.2.2.2.1
  have hw := c_wr S d sw c hm hA hT hN hj
  have hwl := aWr_lt hA N j
  have hsi := hA.2.2.1
  have hny := hA.2.1
  have hho := fun p hp => (hA.2.2.2.2.2.2 p hp).1
  obtain ⟨-, hs, -, hp, -, h6⟩ := hT
  cases sw
  case false =>
    (refine exI rfl rfl ?_; intro X hX)
    repeat refine hX _ _ _ _ _ _ _ _ _ _ _ _ _ _ rfl ?_
    refine Or.inl ⟨_, _, hw, ?_⟩
    have loop : ∀ (k i : Nat), i + k = aNp A → X 12 [some (.ref 0), some (.int (nI j)), some (.int (nI y)), some (.int (nI (aWr A N j))), some (.int (nI (aCnt (fun p => (aWr A N j).testBit p && aNear (aHo A p) y (aSi A)) i))), some (.int (nI i))] [] (hC false c, hm) 0 0 := by
      intro k
      induction k with
      | zero =>
        intro i hi
        repeat refine hX _ _ _ _ _ _ _ _ _ _ _ _ _ _ rfl ?_
        rw [hp]
        refine br_t (show nI (aNp A) ≤ nI i from nI_le (by omega) (by omega)) ?_
        repeat refine hX _ _ _ _ _ _ _ _ _ _ _ _ _ _ rfl ?_
        exact ⟨by rw [show i = aNp A by omega]; rfl, rfl⟩
      | succ k ih =>
        intro i hi
        repeat refine hX _ _ _ _ _ _ _ _ _ _ _ _ _ _ rfl ?_
        rw [hp]
        refine br_f (show ¬ nI (aNp A) ≤ nI i from nI_ge (by omega) (by omega)) ?_
        repeat refine hX _ _ _ _ _ _ _ _ _ _ _ _ _ _ rfl ?_
        refine Or.inl ⟨_, _, c_hasX S d _ hwl (by omega), ?_⟩
        repeat refine hX _ _ _ _ _ _ _ _ _ _ _ _ _ _ rfl ?_
        have h7 := ih (i + 1) (by omega)
        rw [aCnt] at h7
        cases hb : (aWr A N j).testBit i with
        | false =>
          refine br_t (show b2i false = 0 from rfl) ?_
          iterate 2 (refine hX _ _ _ _ _ _ _ _ _ _ _ _ _ _ rfl ?_)
          rw [nI_1]
          rw [hb] at h7
          exact h7
        | true =>
          refine br_f (show ¬ b2i true = 0 by decide) ?_
          repeat refine hX _ _ _ _ _ _ _ _ _ _ _ _ _ _ rfl ?_
          refine ⟨vp_in_nI (by omega) (by decide), ?_⟩
          rw [nI_clamp (by omega)]
          rw [(h6 i (by omega)).1]
          repeat refine hX _ _ _ _ _ _ _ _ _ _ _ _ _ _ rfl ?_
          refine Or.inl ⟨_, _, j_abs S d _ _, ?_⟩
          repeat refine hX _ _ _ _ _ _ _ _ _ _ _ _ _ _ rfl ?_
          rw [hs]
          have hq := q_near (aHo A i) (by have := hho i (by omega); omega) y hy (aSi A) (by omega)
          rw [hb, Bool.true_and] at h7
          cases hn : aNear (aHo A i) y (aSi A) with
          | false =>
            rw [hn] at hq h7
            refine br_t (show nI (aSi A) < jabs (nI (aHo A i) - nI y) from of_decide_eq_true hq) ?_
            iterate 2 (refine hX _ _ _ _ _ _ _ _ _ _ _ _ _ _ rfl ?_)
            rw [nI_1]
            exact h7
          | true =>
            rw [hn] at hq h7
            refine br_f (show ¬ nI (aSi A) < jabs (nI (aHo A i) - nI y) from of_decide_eq_false hq) ?_
            iterate 3 (refine hX _ _ _ _ _ _ _ _ _ _ _ _ _ _ rfl ?_)
            rw [nI_1, nI_1]
            exact h7
    iterate 5 (refine hX _ _ _ _ _ _ _ _ _ _ _ _ _ _ rfl ?_)
    exact loop (aNp A) 0 (by omega)
  case true =>
    (refine exI rfl rfl ?_; intro X hX)
    repeat refine hX _ _ _ _ _ _ _ _ _ _ _ _ _ _ rfl ?_
    refine Or.inl ⟨_, _, hw, ?_⟩
    have loop : ∀ (k i : Nat), i + k = aNp A → X 12 [some (.ref 0), some (.int (nI j)), some (.int (nI y)), some (.int (nI (aWr A N j))), some (.int (nI (aCnt (fun p => (aWr A N j).testBit p && aNear (aHo A p) y (aSi A)) i))), some (.int (nI i))] [] (hC true c, hm) 0 0 := by
      intro k
      induction k with
      | zero =>
        intro i hi
        repeat refine hX _ _ _ _ _ _ _ _ _ _ _ _ _ _ rfl ?_
        rw [hp]
        refine br_t (show nI (aNp A) ≤ nI i from nI_le (by omega) (by omega)) ?_
        repeat refine hX _ _ _ _ _ _ _ _ _ _ _ _ _ _ rfl ?_
        exact ⟨by rw [show i = aNp A by omega]; rfl, rfl⟩
      | succ k ih =>
        intro i hi
        repeat refine hX _ _ _ _ _ _ _ _ _ _ _ _ _ _ rfl ?_
        rw [hp]
        refine br_f (show ¬ nI (aNp A) ≤ nI i from nI_ge (by omega) (by omega)) ?_
        repeat refine hX _ _ _ _ _ _ _ _ _ _ _ _ _ _ rfl ?_
        refine Or.inl ⟨_, _, c_hasX S d _ hwl (by omega), ?_⟩
        repeat refine hX _ _ _ _ _ _ _ _ _ _ _ _ _ _ rfl ?_
        have h7 := ih (i + 1) (by omega)
        rw [aCnt] at h7
        cases hb : (aWr A N j).testBit i with
        | false =>
          refine br_t (show b2i false = 0 from rfl) ?_
          iterate 2 (refine hX _ _ _ _ _ _ _ _ _ _ _ _ _ _ rfl ?_)
          rw [nI_1]
          rw [hb] at h7
          exact h7
        | true =>
          refine br_f (show ¬ b2i true = 0 by decide) ?_
          repeat refine hX _ _ _ _ _ _ _ _ _ _ _ _ _ _ rfl ?_
          refine ⟨vp_in_nI (by omega) (by decide), ?_⟩
          rw [nI_clamp (by omega)]
          rw [(h6 i (by omega)).1]
          repeat refine hX _ _ _ _ _ _ _ _ _ _ _ _ _ _ rfl ?_
          refine Or.inl ⟨_, _, j_abs S d _ _, ?_⟩
          repeat refine hX _ _ _ _ _ _ _ _ _ _ _ _ _ _ rfl ?_
          rw [hs]
          have hq := q_near (aHo A i) (by have := hho i (by omega); omega) y hy (aSi A) (by omega)
          rw [hb, Bool.true_and] at h7
          cases hn : aNear (aHo A i) y (aSi A) with
          | false =>
            rw [hn] at hq h7
            refine br_t (show nI (aSi A) < jabs (nI (aHo A i) - nI y) from of_decide_eq_true hq) ?_
            iterate 2 (refine hX _ _ _ _ _ _ _ _ _ _ _ _ _ _ rfl ?_)
            rw [nI_1]
            exact h7
          | true =>
            rw [hn] at hq h7
            refine br_f (show ¬ nI (aSi A) < jabs (nI (aHo A i) - nI y) from of_decide_eq_false hq) ?_
            iterate 3 (refine hX _ _ _ _ _ _ _ _ _ _ _ _ _ _ rfl ?_)
            rw [nI_1, nI_1]
            exact h7
    iterate 5 (refine hX _ _ _ _ _ _ _ _ _ _ _ _ _ _ rfl ?_)
    exact loop (aNp A) 0 (by omega)
theorem aPlc_lt {A : aT} (hA : TWf A) {N : aN} (hW : NWf A N) {j : Nat} (hj : j < aNs A) : ∀ y, y ≤ aNy A → (aPlc A N j y).1 < aNy A ∧ (aPlc A N j y).2 ≤ 7
  | 0, _ => ⟨hW.2.1 j hj, Nat.le_refl _⟩
  | y + 1, h => by
    have ih := aPlc_lt hA hW hj y (by omega)
    have ho := aOff_le hA N j y
    rw [aPlc]
    cases (aCan A N j y && decide (aOff A N j y < (aPlc A N j y).2)) with
    | false => exact ih
    | true => exact ⟨by show y < _; omega, by show aOff A N j y ≤ 7; omega⟩
/-- the class's test: nobody there, or he himself -/
theorem aSin_self {A : aT} (hA : TWf A) {N : aN} (hW : NWf A N) {j y : Nat} (hj : j < aNs A) (hy : y < 10) : aSin A N (nI y) = nI j ↔ nYa N j = y := by
  have hns := hA.2.2.2.1
  have hny := hA.2.1
  constructor
  · intro h
    rcases aFst_cases (f := nYa N) (y := nI y) (aNs A) 0 with h1 | ⟨k, h1, h2, h3, h4⟩
    · exact absurd (h.symm.trans h1) (n9 j (by omega))
    · have := (nI_eq (by omega) (by omega)).mp (h3.symm.trans h)
      subst this
      have := hW.2.1 k (by omega)
      exact (nI_eq (by omega) (by omega)).mp h4
  · intro h
    rcases aFst_cases (f := nYa N) (y := nI y) (aNs A) 0 with h1 | ⟨k, h1, h2, h3, h4⟩
    · exact absurd (congrArg nI h) (aFst_none (aNs A) 0 (by omega) h1 j (by omega) (by omega))
    · have h5 := hW.2.1 k (by omega)
      have h6 := (nI_eq (by omega) (by omega)).mp h4
      rw [hW.2.2.1 j hj k (by omega) (by omega)]
      exact h3
theorem c_placeOf (S : zS) (d : Nat) (sw : Bool) (c : cS) (hm : List zC) {A : aT} {N : aN} (hA : TWf A) (hT : TRel (cTo c) A) (hW : NWf A N) (hN : NRel A (cSc c) N) {j : Nat} (hj : j < aNs A) : Ex S (d + 3) 0 0 73 [.ref 0, .int (nI j)] (hC sw c, hm) (some (.int (nI (aPlc A N j (aNy A)).1))) (hC sw c, hm) := by
  have hns := hA.2.2.2.1
  have hny := hA.2.1
  have hoff := fun y (h : y < 10) => c_offIn S d sw c hm hA hT hN hj h
  have hin := fun y => c_statueIn S (d + 1) sw c hm hA hT hN y
  have hol := fun y => aOff_le hA N j y
  have hpl := fun y hy => aPlc_lt hA hW hj y hy
  have hyj := hN.2.1 j hj
  have hYt := hT.1
  cases sw
  case false =>
    (refine exI rfl rfl ?_; intro X hX)
    have loop : ∀ (k i : Nat) (v5 v6 : Option Value), i + k = aNy A → ((v5 = none ∧ v6 = none) ∨ ∃ a b, v5 = some (.int a) ∧ v6 = some (.int b)) → X 16 [some (.ref 0), some (.int (nI j)), some (.int (nI (aPlc A N j i).1)), some (.int (nI (aPlc A N j i).2)), some (.int (nI i)), v5, v6] [] (hC false c, hm) 0 0 := by
      intro k
      induction k with
      | zero =>
        intro i v5 v6 hi h5
        repeat refine hX _ _ _ _ _ _ _ _ _ _ _ _ _ _ rfl ?_
        rw [hYt]
        refine br_t (show nI (aNy A) ≤ nI i from nI_le (by omega) (by omega)) ?_
        repeat refine hX _ _ _ _ _ _ _ _ _ _ _ _ _ _ rfl ?_
        exact ⟨by rw [show i = aNy A by omega], rfl⟩
      | succ k ih =>
        intro i v5 v6 hi h5
        have hl := (hpl i (by omega)).2
        have ho := hol i
        have h7 := ih (i + 1) (some (.int (aSin A N (nI i)))) (some (.int (nI (aOff A N j i)))) (by omega) (Or.inr ⟨_, _, rfl, rfl⟩)
        rw [aPlc] at h7
        have h70 : (aCan A N j i && decide (aOff A N j i < (aPlc A N j i).2)) = false → X 70 [some (.ref 0), some (.int (nI j)), some (.int (nI (aPlc A N j i).1)), some (.int (nI (aPlc A N j i).2)), some (.int (nI i)), some (.int (aSin A N (nI i))), some (.int (nI (aOff A N j i)))] [] (hC false c, hm) 0 0 := by
          intro hb
          rw [hb] at h7
          iterate 2 (refine hX _ _ _ _ _ _ _ _ _ _ _ _ _ _ rfl ?_)
          rw [nI_1]
          exact h7
        have h58 : aCan A N j i = true → X 58 [some (.ref 0), some (.int (nI j)), some (.int (nI (aPlc A N j i).1)), some (.int (nI (aPlc A N j i).2)), some (.int (nI i)), some (.int (aSin A N (nI i))), some (.int (nI (aOff A N j i)))] [] (hC false c, hm) 0 0 := by
          intro hb
          repeat refine hX _ _ _ _ _ _ _ _ _ _ _ _ _ _ rfl ?_
          by_cases hlt : aOff A N j i < (aPlc A N j i).2
          · refine br_f (show ¬ nI (aPlc A N j i).2 ≤ nI (aOff A N j i) from nI_ge hlt (by omega)) ?_
            iterate 6 (refine hX _ _ _ _ _ _ _ _ _ _ _ _ _ _ rfl ?_)
            rw [nI_1]
            rw [hb, decide_eq_true hlt] at h7
            exact h7
          · refine br_t (show nI (aPlc A N j i).2 ≤ nI (aOff A N j i) from nI_le (by omega) (by omega)) ?_
            exact h70 (by rw [decide_eq_false hlt, Bool.and_false])
        have hrest : X 45 [some (.ref 0), some (.int (nI j)), some (.int (nI (aPlc A N j i).1)), some (.int (nI (aPlc A N j i).2)), some (.int (nI i)), some (.int (aSin A N (nI i))), some (.int (nI (aOff A N j i)))] [] (hC false c, hm) 0 0 := by
          repeat refine hX _ _ _ _ _ _ _ _ _ _ _ _ _ _ rfl ?_
          by_cases hz : aSin A N (nI i) = -9
          · refine br_t (show aSin A N (nI i) = -9 from hz) ?_
            exact h58 (by rw [aCan, decide_eq_true hz, Bool.true_or])
          · refine br_f (show ¬ aSin A N (nI i) = -9 from hz) ?_
            repeat refine hX _ _ _ _ _ _ _ _ _ _ _ _ _ _ rfl ?_
            by_cases hs : aSin A N (nI i) = nI j
            · refine br_f (show ¬ ¬ aSin A N (nI i) = nI j from fun h9 => h9 hs) ?_
              exact h58 (by rw [aCan, decide_eq_true ((aSin_self hA hW hj (by omega)).mp hs), Bool.or_true])
            · refine br_t (show ¬ aSin A N (nI i) = nI j from hs) ?_
              exact h70 (by rw [aCan, decide_eq_false hz, decide_eq_false (fun h9 => hs ((aSin_self hA hW hj (by omega)).mpr h9))]; rfl)
        rcases h5 with ⟨rfl, rfl⟩ | ⟨a, b, rfl, rfl⟩
        all_goals
          repeat refine hX _ _ _ _ _ _ _ _ _ _ _ _ _ _ rfl ?_
          rw [hYt]
          refine br_f (show ¬ nI (aNy A) ≤ nI i from nI_ge (by omega) (by omega)) ?_
          repeat refine hX _ _ _ _ _ _ _ _ _ _ _ _ _ _ rfl ?_
          refine Or.inl ⟨_, _, hin (nI i), ?_⟩
          repeat refine hX _ _ _ _ _ _ _ _ _ _ _ _ _ _ rfl ?_
          refine Or.inl ⟨_, _, hoff i (by omega), ?_⟩
          iterate 1 (refine hX _ _ _ _ _ _ _ _ _ _ _ _ _ _ rfl ?_)
          exact hrest
    repeat refine hX _ _ _ _ _ _ _ _ _ _ _ _ _ _ rfl ?_
    refine ⟨vp_in_nI (by omega) (by decide), ?_⟩
    rw [nI_clamp (by omega)]
    rw [hyj]
    iterate 5 (refine hX _ _ _ _ _ _ _ _ _ _ _ _ _ _ rfl ?_)
    exact loop (aNy A) 0 none none (by omega) (Or.inl ⟨rfl, rfl⟩)
  case true =>
    (refine exI rfl rfl ?_; intro X hX)
    have loop : ∀ (k i : Nat) (v5 v6 : Option Value), i + k = aNy A → ((v5 = none ∧ v6 = none) ∨ ∃ a b, v5 = some (.int a) ∧ v6 = some (.int b)) → X 16 [some (.ref 0), some (.int (nI j)), some (.int (nI (aPlc A N j i).1)), some (.int (nI (aPlc A N j i).2)), some (.int (nI i)), v5, v6] [] (hC true c, hm) 0 0 := by
      intro k
      induction k with
      | zero =>
        intro i v5 v6 hi h5
        repeat refine hX _ _ _ _ _ _ _ _ _ _ _ _ _ _ rfl ?_
        rw [hYt]
        refine br_t (show nI (aNy A) ≤ nI i from nI_le (by omega) (by omega)) ?_
        repeat refine hX _ _ _ _ _ _ _ _ _ _ _ _ _ _ rfl ?_
        exact ⟨by rw [show i = aNy A by omega], rfl⟩
      | succ k ih =>
        intro i v5 v6 hi h5
        have hl := (hpl i (by omega)).2
        have ho := hol i
        have h7 := ih (i + 1) (some (.int (aSin A N (nI i)))) (some (.int (nI (aOff A N j i)))) (by omega) (Or.inr ⟨_, _, rfl, rfl⟩)
        rw [aPlc] at h7
        have h70 : (aCan A N j i && decide (aOff A N j i < (aPlc A N j i).2)) = false → X 70 [some (.ref 0), some (.int (nI j)), some (.int (nI (aPlc A N j i).1)), some (.int (nI (aPlc A N j i).2)), some (.int (nI i)), some (.int (aSin A N (nI i))), some (.int (nI (aOff A N j i)))] [] (hC true c, hm) 0 0 := by
          intro hb
          rw [hb] at h7
          iterate 2 (refine hX _ _ _ _ _ _ _ _ _ _ _ _ _ _ rfl ?_)
          rw [nI_1]
          exact h7
        have h58 : aCan A N j i = true → X 58 [some (.ref 0), some (.int (nI j)), some (.int (nI (aPlc A N j i).1)), some (.int (nI (aPlc A N j i).2)), some (.int (nI i)), some (.int (aSin A N (nI i))), some (.int (nI (aOff A N j i)))] [] (hC true c, hm) 0 0 := by
          intro hb
          repeat refine hX _ _ _ _ _ _ _ _ _ _ _ _ _ _ rfl ?_
          by_cases hlt : aOff A N j i < (aPlc A N j i).2
          · refine br_f (show ¬ nI (aPlc A N j i).2 ≤ nI (aOff A N j i) from nI_ge hlt (by omega)) ?_
            iterate 6 (refine hX _ _ _ _ _ _ _ _ _ _ _ _ _ _ rfl ?_)
            rw [nI_1]
            rw [hb, decide_eq_true hlt] at h7
            exact h7
          · refine br_t (show nI (aPlc A N j i).2 ≤ nI (aOff A N j i) from nI_le (by omega) (by omega)) ?_
            exact h70 (by rw [decide_eq_false hlt, Bool.and_false])
        have hrest : X 45 [some (.ref 0), some (.int (nI j)), some (.int (nI (aPlc A N j i).1)), some (.int (nI (aPlc A N j i).2)), some (.int (nI i)), some (.int (aSin A N (nI i))), some (.int (nI (aOff A N j i)))] [] (hC true c, hm) 0 0 := by
          repeat refine hX _ _ _ _ _ _ _ _ _ _ _ _ _ _ rfl ?_
          by_cases hz : aSin A N (nI i) = -9
          · refine br_t (show aSin A N (nI i) = -9 from hz) ?_
            exact h58 (by rw [aCan, decide_eq_true hz, Bool.true_or])
          · refine br_f (show ¬ aSin A N (nI i) = -9 from hz) ?_
            repeat refine hX _ _ _ _ _ _ _ _ _ _ _ _ _ _ rfl ?_
            by_cases hs : aSin A N (nI i) = nI j
            · refine br_f (show ¬ ¬ aSin A N (nI i) = nI j from fun h9 => h9 hs) ?_
              exact h58 (by rw [aCan, decide_eq_true ((aSin_self hA hW hj (by omega)).mp hs), Bool.or_true])
            · refine br_t (show ¬ aSin A N (nI i) = nI j from hs) ?_
              exact h70 (by rw [aCan, decide_eq_false hz, decide_eq_false (fun h9 => hs ((aSin_self hA hW hj (by omega)).mpr h9))]; rfl)
        rcases h5 with ⟨rfl, rfl⟩ | ⟨a, b, rfl, rfl⟩
        all_goals
          repeat refine hX _ _ _ _ _ _ _ _ _ _ _ _ _ _ rfl ?_
          rw [hYt]
          refine br_f (show ¬ nI (aNy A) ≤ nI i from nI_ge (by omega) (by omega)) ?_
          repeat refine hX _ _ _ _ _ _ _ _ _ _ _ _ _ _ rfl ?_
          refine Or.inl ⟨_, _, hin (nI i), ?_⟩
          repeat refine hX _ _ _ _ _ _ _ _ _ _ _ _ _ _ rfl ?_
          refine Or.inl ⟨_, _, hoff i (by omega), ?_⟩
          iterate 1 (refine hX _ _ _ _ _ _ _ _ _ _ _ _ _ _ rfl ?_)
          exact hrest
    repeat refine hX _ _ _ _ _ _ _ _ _ _ _ _ _ _ rfl ?_
    refine ⟨vp_in_nI (by omega) (by decide), ?_⟩
    rw [nI_clamp (by omega)]
    rw [hyj]
    iterate 5 (refine hX _ _ _ _ _ _ _ _ _ _ _ _ _ _ rfl ?_)
    exact loop (aNy A) 0 none none (by omega) (Or.inl ⟨rfl, rfl⟩)
theorem c_moving (S : zS) (d : Nat) (sw : Bool) (c : cS) (hm : List zC) {A : aT} {N : aN} (hA : TWf A) (hT : TRel (cTo c) A) (hW : NWf A N) (hN : NRel A (cSc c) N) : Ex S (d + 5) 0 0 67 [.ref 0] (hC sw c, hm) (some (.int (nI (aMvs A N)))) (hC sw c, hm) := by
  have hns := hA.2.2.2.1
  have hmv := fun j (hj : j < aNs A) => c_moves S d sw c hm hA hT hW hN hj
  obtain ⟨-, -, hn, -, -, -⟩ := hT
  cases sw
  case false =>
    (refine exI rfl rfl ?_; intro X hX)
    have loop : ∀ (k j : Nat), j + k = aNs A → X 4 [some (.ref 0), some (.int (nI (nmask j (aMov A N)))), some (.int (nI j))] [] (hC false c, hm) 0 0 := by
      intro k
      induction k with
      | zero =>
        intro j hj
        repeat refine hX _ _ _ _ _ _ _ _ _ _ _ _ _ _ rfl ?_
        rw [hn]
        refine br_t (show nI (aNs A) ≤ nI j from nI_le (by omega) (by omega)) ?_
        repeat refine hX _ _ _ _ _ _ _ _ _ _ _ _ _ _ rfl ?_
        exact ⟨by rw [show j = aNs A by omega]; rfl, rfl⟩
      | succ k ih =>
        intro j hj
        repeat refine hX _ _ _ _ _ _ _ _ _ _ _ _ _ _ rfl ?_
        rw [hn]
        refine br_f (show ¬ nI (aNs A) ≤ nI j from nI_ge (by omega) (by omega)) ?_
        repeat refine hX _ _ _ _ _ _ _ _ _ _ _ _ _ _ rfl ?_
        refine Or.inl ⟨_, _, hmv j (by omega), ?_⟩
        repeat refine hX _ _ _ _ _ _ _ _ _ _ _ _ _ _ rfl ?_
        have h7 := ih (j + 1) (by omega)
        rw [nmask] at h7
        cases hb : aMov A N j with
        | false =>
          refine br_t (show b2i false = 0 from rfl) ?_
          iterate 2 (refine hX _ _ _ _ _ _ _ _ _ _ _ _ _ _ rfl ?_)
          rw [nI_1]
          rw [hb] at h7
          exact h7
        | true =>
          refine br_f (show ¬ b2i true = 0 by decide) ?_
          iterate 8 (refine hX _ _ _ _ _ _ _ _ _ _ _ _ _ _ rfl ?_)
          rw [nI_1, q_shl j (by omega), nI_or, nmask_set]
          rw [hb] at h7
          exact h7
    iterate 4 (refine hX _ _ _ _ _ _ _ _ _ _ _ _ _ _ rfl ?_)
    exact loop (aNs A) 0 (by omega)
  case true =>
    (refine exI rfl rfl ?_; intro X hX)
    have loop : ∀ (k j : Nat), j + k = aNs A → X 4 [some (.ref 0), some (.int (nI (nmask j (aMov A N)))), some (.int (nI j))] [] (hC true c, hm) 0 0 := by
      intro k
      induction k with
      | zero =>
        intro j hj
        repeat refine hX _ _ _ _ _ _ _ _ _ _ _ _ _ _ rfl ?_
        rw [hn]
        refine br_t (show nI (aNs A) ≤ nI j from nI_le (by omega) (by omega)) ?_
        repeat refine hX _ _ _ _ _ _ _ _ _ _ _ _ _ _ rfl ?_
        exact ⟨by rw [show j = aNs A by omega]; rfl, rfl⟩
      | succ k ih =>
        intro j hj
        repeat refine hX _ _ _ _ _ _ _ _ _ _ _ _ _ _ rfl ?_
        rw [hn]
        refine br_f (show ¬ nI (aNs A) ≤ nI j from nI_ge (by omega) (by omega)) ?_
        repeat refine hX _ _ _ _ _ _ _ _ _ _ _ _ _ _ rfl ?_
        refine Or.inl ⟨_, _, hmv j (by omega), ?_⟩
        repeat refine hX _ _ _ _ _ _ _ _ _ _ _ _ _ _ rfl ?_
        have h7 := ih (j + 1) (by omega)
        rw [nmask] at h7
        cases hb : aMov A N j with
        | false =>
          refine br_t (show b2i false = 0 from rfl) ?_
          iterate 2 (refine hX _ _ _ _ _ _ _ _ _ _ _ _ _ _ rfl ?_)
          rw [nI_1]
          rw [hb] at h7
          exact h7
        | true =>
          refine br_f (show ¬ b2i true = 0 by decide) ?_
          iterate 8 (refine hX _ _ _ _ _ _ _ _ _ _ _ _ _ _ rfl ?_)
          rw [nI_1, q_shl j (by omega), nI_or, nmask_set]
          rw [hb] at h7
          exact h7
    iterate 4 (refine hX _ _ _ _ _ _ _ _ _ _ _ _ _ _ rfl ?_)
    exact loop (aNs A) 0 (by omega)
theorem c_emptyY (S : zS) (d : Nat) (sw : Bool) (c : cS) (hm : List zC) {A : aT} {N : aN} (hA : TWf A) (hT : TRel (cTo c) A) (hN : NRel A (cSc c) N) : Ex S (d + 2) 0 0 70 [.ref 0] (hC sw c, hm) (some (.int (nI (aEmp A N)))) (hC sw c, hm) := by
  have hny := hA.2.1
  have hin := fun y => c_statueIn S d sw c hm hA hT hN y
  obtain ⟨hn, -, -, -, -, -⟩ := hT
  cases sw
  case false =>
    (refine exI rfl rfl ?_; intro X hX)
    have loop : ∀ (k j : Nat), j + k = aNy A → X 4 [some (.ref 0), some (.int (nI (nmask j (fun y => decide (aSin A N (nI y) = -9))))), some (.int (nI j))] [] (hC false c, hm) 0 0 := by
      intro k
      induction k with
      | zero =>
        intro j hj
        repeat refine hX _ _ _ _ _ _ _ _ _ _ _ _ _ _ rfl ?_
        rw [hn]
        refine br_t (show nI (aNy A) ≤ nI j from nI_le (by omega) (by omega)) ?_
        repeat refine hX _ _ _ _ _ _ _ _ _ _ _ _ _ _ rfl ?_
        exact ⟨by rw [show j = aNy A by omega]; rfl, rfl⟩
      | succ k ih =>
        intro j hj
        repeat refine hX _ _ _ _ _ _ _ _ _ _ _ _ _ _ rfl ?_
        rw [hn]
        refine br_f (show ¬ nI (aNy A) ≤ nI j from nI_ge (by omega) (by omega)) ?_
        repeat refine hX _ _ _ _ _ _ _ _ _ _ _ _ _ _ rfl ?_
        refine Or.inl ⟨_, _, hin (nI j), ?_⟩
        repeat refine hX _ _ _ _ _ _ _ _ _ _ _ _ _ _ rfl ?_
        have h7 := ih (j + 1) (by omega)
        rw [nmask] at h7
        by_cases hb : aSin A N (nI j) = -9
        · refine br_f (show ¬ ¬ aSin A N (nI j) = -9 from fun h9 => h9 hb) ?_
          iterate 8 (refine hX _ _ _ _ _ _ _ _ _ _ _ _ _ _ rfl ?_)
          rw [nI_1, q_shl j (by omega), nI_or, nmask_set]
          rw [decide_eq_true hb] at h7
          exact h7
        · refine br_t (show ¬ aSin A N (nI j) = -9 from hb) ?_
          iterate 2 (refine hX _ _ _ _ _ _ _ _ _ _ _ _ _ _ rfl ?_)
          rw [nI_1]
          rw [decide_eq_false hb] at h7
          exact h7
    iterate 4 (refine hX _ _ _ _ _ _ _ _ _ _ _ _ _ _ rfl ?_)
    exact loop (aNy A) 0 (by omega)
  case true =>
    (refine exI rfl rfl ?_; intro X hX)
    have loop : ∀ (k j : Nat), j + k = aNy A → X 4 [some (.ref 0), some (.int (nI (nmask j (fun y => decide (aSin A N (nI y) = -9))))), some (.int (nI j))] [] (hC true c, hm) 0 0 := by
      intro k
      induction k with
      | zero =>
        intro j hj
        repeat refine hX _ _ _ _ _ _ _ _ _ _ _ _ _ _ rfl ?_
        rw [hn]
        refine br_t (show nI (aNy A) ≤ nI j from nI_le (by omega) (by omega)) ?_
        repeat refine hX _ _ _ _ _ _ _ _ _ _ _ _ _ _ rfl ?_
        exact ⟨by rw [show j = aNy A by omega]; rfl, rfl⟩
      | succ k ih =>
        intro j hj
        repeat refine hX _ _ _ _ _ _ _ _ _ _ _ _ _ _ rfl ?_
        rw [hn]
        refine br_f (show ¬ nI (aNy A) ≤ nI j from nI_ge (by omega) (by omega)) ?_
        repeat refine hX _ _ _ _ _ _ _ _ _ _ _ _ _ _ rfl ?_
        refine Or.inl ⟨_, _, hin (nI j), ?_⟩
        repeat refine hX _ _ _ _ _ _ _ _ _ _ _ _ _ _ rfl ?_
        have h7 := ih (j + 1) (by omega)
        rw [nmask] at h7
        by_cases hb : aSin A N (nI j) = -9
        · refine br_f (show ¬ ¬ aSin A N (nI j) = -9 from fun h9 => h9 hb) ?_
          iterate 8 (refine hX _ _ _ _ _ _ _ _ _ _ _ _ _ _ rfl ?_)
          rw [nI_1, q_shl j (by omega), nI_or, nmask_set]
          rw [decide_eq_true hb] at h7
          exact h7
        · refine br_t (show ¬ aSin A N (nI j) = -9 from hb) ?_
          iterate 2 (refine hX _ _ _ _ _ _ _ _ _ _ _ _ _ _ rfl ?_)
          rw [nI_1]
          rw [decide_eq_false hb] at h7
          exact h7
    iterate 4 (refine hX _ _ _ _ _ _ _ _ _ _ _ _ _ _ rfl ?_)
    exact loop (aNy A) 0 (by omega)
