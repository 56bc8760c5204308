theorem c_scale (S : zS) (d : Nat) (sw : Bool) (c : cS) (hm : List zC) {A : aT} {N : aN} (hA : TWf A) (hT : TRel (cTo c) A) (hW : NWf A N) (hN : NRel A (cSc c) N) (x y : Int32) : Ex S (d + 3) 0 0 51 [.ref 0, .int x, .int y] (hC sw c, hm) (some (.int (spScale A N x y))) (hC sw c, hm) := by
  have hns := hA.2.2.2.1
  have hnp := hA.2.2.2.2.1
  have h64 := pow_le64 hnp
  have hst := c_hasOne S (d + 1) sw c hm hT.2.2.2.1 x
  have hst2 := c_hasStatue S (d + 1) sw c hm hT.2.2.1 y
  have hpe := hT.2.2.2.1
  have e2 := q_shl (aNp A) (by omega)
  unfold spScale
  cases hin : inb x (aNp A) with
  | false =>
    rw [hin] at hst
    cases sw
    all_goals
      (refine exI rfl rfl ?_; intro X hX)
      repeat refine hX _ _ _ _ _ _ _ _ _ _ _ _ _ _ rfl ?_
      refine Or.inl ⟨_, _, hst, ?_⟩
      repeat refine hX _ _ _ _ _ _ _ _ _ _ _ _ _ _ rfl ?_
      refine br_t (show b2i false = 0 from rfl) ?_
      repeat refine hX _ _ _ _ _ _ _ _ _ _ _ _ _ _ rfl ?_
      exact ⟨rfl, rfl⟩
  | true =>
    rw [hin] at hst
    obtain ⟨p, hp, rfl⟩ := inb_of hin (by omega)
    cases hin2 : inb y (aNs A) with
    | false =>
      rw [hin2] at hst2
      cases sw
      all_goals
        (refine exI rfl rfl ?_; intro X hX)
        repeat refine hX _ _ _ _ _ _ _ _ _ _ _ _ _ _ rfl ?_
        refine Or.inl ⟨_, _, hst, ?_⟩
        repeat refine hX _ _ _ _ _ _ _ _ _ _ _ _ _ _ rfl ?_
        refine br_f (show ¬ b2i true = 0 by decide) ?_
        repeat refine hX _ _ _ _ _ _ _ _ _ _ _ _ _ _ rfl ?_
        refine Or.inl ⟨_, _, hst2, ?_⟩
        repeat refine hX _ _ _ _ _ _ _ _ _ _ _ _ _ _ rfl ?_
        refine br_f (show ¬ ¬ b2i false = 0 by decide) ?_
        repeat refine hX _ _ _ _ _ _ _ _ _ _ _ _ _ _ rfl ?_
        exact ⟨rfl, rfl⟩
    | true =>
      rw [hin2] at hst2
      obtain ⟨s, hs, rfl⟩ := inb_of hin2 (by omega)
      simp only [cond_true, Bool.and_self, nI_clamp (show p < 2 ^ 31 by omega), nI_clamp (show s < 2 ^ 31 by omega)]
      have hpu := c_pullersAt S d sw c hm hA hT hW hN hs
      have hal : aWr A N s &&& nCo N < 64 := q_and_lt (aWr_lt hA N s)
      generalize aWr A N s &&& nCo N = all at *
      have hhas := fun h => c_hasX S (d + 1) h hal (show p < 6 by omega)
      cases hb : all.testBit p with
      | false =>
        rw [hb] at hhas
        cases sw
        all_goals
          (refine exI rfl rfl ?_; intro X hX)
          repeat refine hX _ _ _ _ _ _ _ _ _ _ _ _ _ _ rfl ?_
          refine Or.inl ⟨_, _, hst, ?_⟩
          repeat refine hX _ _ _ _ _ _ _ _ _ _ _ _ _ _ rfl ?_
          refine br_f (show ¬ b2i true = 0 by decide) ?_
          repeat refine hX _ _ _ _ _ _ _ _ _ _ _ _ _ _ rfl ?_
          refine Or.inl ⟨_, _, hst2, ?_⟩
          repeat refine hX _ _ _ _ _ _ _ _ _ _ _ _ _ _ rfl ?_
          refine br_t (show ¬ b2i true = 0 by decide) ?_
          repeat refine hX _ _ _ _ _ _ _ _ _ _ _ _ _ _ rfl ?_
          refine Or.inl ⟨_, _, hpu, ?_⟩
          repeat refine hX _ _ _ _ _ _ _ _ _ _ _ _ _ _ rfl ?_
          refine Or.inl ⟨_, _, hhas _, ?_⟩
          repeat refine hX _ _ _ _ _ _ _ _ _ _ _ _ _ _ rfl ?_
          refine br_f (show ¬ ¬ b2i false = 0 by decide) ?_
          repeat refine hX _ _ _ _ _ _ _ _ _ _ _ _ _ _ rfl ?_
          exact ⟨rfl, rfl⟩
      | true =>
        rw [hb] at hhas
        simp only [cond_true]
        have hol : all &&& (63 ^^^ 2 ^ p) < 64 := q_and_lt hal
        have eo : nI all &&& ((1 <<< (nI p &&& 31)) ^^^ (-1)) = nI (all &&& (63 ^^^ 2 ^ p)) := by rw [q_shl p (by omega), q_andn _ hal _ (q_p64 p (by omega))]
        generalize all &&& (63 ^^^ 2 ^ p) = oth at *
        have hstr := fun (z : Nat) (hz : z < 64) => c_strengthOf S d sw c hm hA hT hz
        have hwi := fun h (z : Nat) (hz : z < 64) => c_isWithin S (d + 1) h hz hol
        have hor := fun h (z : Nat) (hz : z < 64) => c_ordersOf S d h hz
        have hwe := (hT.2.2.2.2.1 s hs).1
        have hsg := (hT.2.2.2.2.2 p hp).2.1
        have hw30 := (hA.2.2.2.2.2.1 s hs).2.1
        have hs9 := (hA.2.2.2.2.2.2 p hp).2.2.1
        cases sw
        case false =>
          (refine exI rfl rfl ?_; intro X hX)
          have loop : ∀ (k i : Nat) (v7 v8 : Option Value), i + k = 2 ^ aNp A → ((v7 = none ∧ v8 = none) ∨ ∃ z1 z2, v7 = some (.int z1) ∧ v8 = some (.int z2)) → X 55 [some (.ref 0), some (.int (nI p)), some (.int (nI s)), some (.int (nI all)), some (.int (nI oth)), some (.int (nI (aSumN (aScT A oth p s) i))), some (.int (nI i)), v7, v8] [] (hC false c, hm) 0 0 := by
            intro k
            induction k with
            | zero =>
              intro i v7 v8 hi hv
              repeat refine hX _ _ _ _ _ _ _ _ _ _ _ _ _ _ rfl ?_
              rw [hpe, e2]
              refine br_t (show nI (2 ^ aNp A) ≤ nI i from nI_le (by omega) (by omega)) ?_
              repeat refine hX _ _ _ _ _ _ _ _ _ _ _ _ _ _ rfl ?_
              exact ⟨by rw [show i = 2 ^ aNp A by omega], rfl⟩
            | succ k ih =>
              intro i v7 v8 hi hv
              have hsl := aStr_le hA i
              have h7 := fun z1 z2 => ih (i + 1) (some (.int z1)) (some (.int z2)) (by omega) (Or.inr ⟨_, _, rfl, rfl⟩)
              rw [aSumN] at h7
              have m1 := q_miss1 (aWe A s) (by omega) (aStr A i) (by omega)
              have m2 := q_miss2 (aWe A s) (by omega) (aStr A i) (by omega) (aSt A p) (by omega)
              have h152 : ∀ z1 z2, aScT A oth p s i = 0 → X 152 [some (.ref 0), some (.int (nI p)), some (.int (nI s)), some (.int (nI all)), some (.int (nI oth)), some (.int (nI (aSumN (aScT A oth p s) i))), some (.int (nI i)), some (.int z1), some (.int z2)] [] (hC false c, hm) 0 0 := by
                intro z1 z2 h0
                have h8 := h7 z1 z2
                rw [h0] at h8
                iterate 2 (refine hX _ _ _ _ _ _ _ _ _ _ _ _ _ _ rfl ?_)
                rw [nI_1]
                exact h8
              have h116 : ∀ z1 (u : Bool), u = (decide (aStr A i < aWe A s) && decide (aWe A s ≤ aStr A i + aSt A p)) → X 116 [some (.ref 0), some (.int (nI p)), some (.int (nI s)), some (.int (nI all)), some (.int (nI oth)), some (.int (nI (aSumN (aScT A oth p s) i))), some (.int (nI i)), some (.int z1), some (.int (b2i u))] [] (hC false c, hm) 0 0 := by
                intro z1 u hu
                repeat refine hX _ _ _ _ _ _ _ _ _ _ _ _ _ _ rfl ?_
                refine Or.inl ⟨_, _, hwi _ i (by omega), ?_⟩
                repeat refine hX _ _ _ _ _ _ _ _ _ _ _ _ _ _ rfl ?_
                cases hsb : aSub i oth with
                | false =>
                  refine br_t (show b2i false = 0 from rfl) ?_
                  exact h152 _ _ (by rw [aScT, hsb]; rfl)
                | true =>
                  refine br_f (show ¬ b2i true = 0 by decide) ?_
                  repeat refine hX _ _ _ _ _ _ _ _ _ _ _ _ _ _ rfl ?_
                  cases u with
                  | false =>
                    refine br_t (show b2i false = 0 from rfl) ?_
                    exact h152 _ _ (by rw [aScT, hsb, ← hu]; rfl)
                  | true =>
                    refine br_f (show ¬ b2i true = 0 by decide) ?_
                    have h8 := h7 z1 (b2i true)
                    rw [show aScT A oth p s i = fac (pop i) * fac (pop (oth &&& (63 ^^^ i))) by rw [aScT, hsb, ← hu]; rfl] at h8
                    repeat refine hX _ _ _ _ _ _ _ _ _ _ _ _ _ _ rfl ?_
                    refine Or.inl ⟨_, _, hor _ i (by omega), ?_⟩
                    iterate 6 (refine hX _ _ _ _ _ _ _ _ _ _ _ _ _ _ rfl ?_)
                    rw [q_andn _ hol i (by omega)]
                    refine Or.inl ⟨_, _, hor _ _ (q_and_lt hol), ?_⟩
                    iterate 5 (refine hX _ _ _ _ _ _ _ _ _ _ _ _ _ _ rfl ?_)
                    rw [nI_1, pk_mul, nI_add]
                    exact h8
              rcases hv with ⟨rfl, rfl⟩ | ⟨z1, z2, rfl, rfl⟩
              all_goals
                repeat refine hX _ _ _ _ _ _ _ _ _ _ _ _ _ _ rfl ?_
                rw [hpe, e2]
                refine br_f (show ¬ nI (2 ^ aNp A) ≤ nI i from nI_ge (by omega) (by omega)) ?_
                repeat refine hX _ _ _ _ _ _ _ _ _ _ _ _ _ _ rfl ?_
                refine ⟨vp_in_nI (by omega) (by decide), ?_⟩
                rw [nI_clamp (by omega)]
                rw [hwe]
                repeat refine hX _ _ _ _ _ _ _ _ _ _ _ _ _ _ rfl ?_
                refine Or.inl ⟨_, _, hstr i (by omega), ?_⟩
                repeat refine hX _ _ _ _ _ _ _ _ _ _ _ _ _ _ rfl ?_
                by_cases c1 : aStr A i < aWe A s
                · rw [decide_eq_true c1] at m1 h116
                  refine br_f (show ¬ nI (aWe A s) - nI (aStr A i) ≤ 0 from of_decide_eq_false m1) ?_
                  repeat refine hX _ _ _ _ _ _ _ _ _ _ _ _ _ _ rfl ?_
                  refine ⟨vp_in_nI (by omega) (by decide), ?_⟩
                  rw [nI_clamp (by omega)]
                  rw [hsg]
                  repeat refine hX _ _ _ _ _ _ _ _ _ _ _ _ _ _ rfl ?_
                  by_cases c2 : aWe A s ≤ aStr A i + aSt A p
                  · rw [decide_eq_true c2] at m2 h116
                    refine br_f (show ¬ nI (aSt A p) < nI (aWe A s) - nI (aStr A i) from of_decide_eq_false m2) ?_
                    iterate 3 (refine hX _ _ _ _ _ _ _ _ _ _ _ _ _ _ rfl ?_)
                    exact h116 _ true rfl
                  · rw [decide_eq_false c2] at m2 h116
                    refine br_t (show nI (aSt A p) < nI (aWe A s) - nI (aStr A i) from of_decide_eq_true m2) ?_
                    iterate 2 (refine hX _ _ _ _ _ _ _ _ _ _ _ _ _ _ rfl ?_)
                    exact h116 _ false rfl
                · rw [decide_eq_false c1] at m1 h116
                  refine br_t (show nI (aWe A s) - nI (aStr A i) ≤ 0 from of_decide_eq_true m1) ?_
                  iterate 2 (refine hX _ _ _ _ _ _ _ _ _ _ _ _ _ _ rfl ?_)
                  exact h116 _ false rfl
          repeat refine hX _ _ _ _ _ _ _ _ _ _ _ _ _ _ rfl ?_
          refine Or.inl ⟨_, _, hst, ?_⟩
          repeat refine hX _ _ _ _ _ _ _ _ _ _ _ _ _ _ rfl ?_
          refine br_f (show ¬ b2i true = 0 by decide) ?_
          repeat refine hX _ _ _ _ _ _ _ _ _ _ _ _ _ _ rfl ?_
          refine Or.inl ⟨_, _, hst2, ?_⟩
          repeat refine hX _ _ _ _ _ _ _ _ _ _ _ _ _ _ rfl ?_
          refine br_t (show ¬ b2i true = 0 by decide) ?_
          repeat refine hX _ _ _ _ _ _ _ _ _ _ _ _ _ _ rfl ?_
          refine Or.inl ⟨_, _, hpu, ?_⟩
          repeat refine hX _ _ _ _ _ _ _ _ _ _ _ _ _ _ rfl ?_
          refine Or.inl ⟨_, _, hhas _, ?_⟩
          repeat refine hX _ _ _ _ _ _ _ _ _ _ _ _ _ _ rfl ?_
          refine br_t (show ¬ b2i true = 0 by decide) ?_
          iterate 8 (refine hX _ _ _ _ _ _ _ _ _ _ _ _ _ _ rfl ?_)
          rw [eo]
          iterate 4 (refine hX _ _ _ _ _ _ _ _ _ _ _ _ _ _ rfl ?_)
          exact loop (2 ^ aNp A) 0 none none (by omega) (Or.inl ⟨rfl, rfl⟩)
        case true =>
          (refine exI rfl rfl ?_; intro X hX)
          have loop : ∀ (k i : Nat) (v7 v8 : Option Value), i + k = 2 ^ aNp A → ((v7 = none ∧ v8 = none) ∨ ∃ z1 z2, v7 = some (.int z1) ∧ v8 = some (.int z2)) → X 55 [some (.ref 0), some (.int (nI p)), some (.int (nI s)), some (.int (nI all)), some (.int (nI oth)), some (.int (nI (aSumN (aScT A oth p s) i))), some (.int (nI i)), v7, v8] [] (hC true c, hm) 0 0 := by
            intro k
            induction k with
            | zero =>
              intro i v7 v8 hi hv
              repeat refine hX _ _ _ _ _ _ _ _ _ _ _ _ _ _ rfl ?_
              rw [hpe, e2]
              refine br_t (show nI (2 ^ aNp A) ≤ nI i from nI_le (by omega) (by omega)) ?_
              repeat refine hX _ _ _ _ _ _ _ _ _ _ _ _ _ _ rfl ?_
              exact ⟨by rw [show i = 2 ^ aNp A by omega], rfl⟩
            | succ k ih =>
              intro i v7 v8 hi hv
              have hsl := aStr_le hA i
              have h7 := fun z1 z2 => ih (i + 1) (some (.int z1)) (some (.int z2)) (by omega) (Or.inr ⟨_, _, rfl, rfl⟩)
              rw [aSumN] at h7
              have m1 := q_miss1 (aWe A s) (by omega) (aStr A i) (by omega)
              have m2 := q_miss2 (aWe A s) (by omega) (aStr A i) (by omega) (aSt A p) (by omega)
              have h152 : ∀ z1 z2, aScT A oth p s i = 0 → X 152 [some (.ref 0), some (.int (nI p)), some (.int (nI s)), some (.int (nI all)), some (.int (nI oth)), some (.int (nI (aSumN (aScT A oth p s) i))), some (.int (nI i)), some (.int z1), some (.int z2)] [] (hC true c, hm) 0 0 := by
                intro z1 z2 h0
                have h8 := h7 z1 z2
                rw [h0] at h8
                iterate 2 (refine hX _ _ _ _ _ _ _ _ _ _ _ _ _ _ rfl ?_)
                rw [nI_1]
                exact h8
              have h116 : ∀ z1 (u : Bool), u = (decide (aStr A i < aWe A s) && decide (aWe A s ≤ aStr A i + aSt A p)) → X 116 [some (.ref 0), some (.int (nI p)), some (.int (nI s)), some (.int (nI all)), some (.int (nI oth)), some (.int (nI (aSumN (aScT A oth p s) i))), some (.int (nI i)), some (.int z1), some (.int (b2i u))] [] (hC true c, hm) 0 0 := by
                intro z1 u hu
                repeat refine hX _ _ _ _ _ _ _ _ _ _ _ _ _ _ rfl ?_
                refine Or.inl ⟨_, _, hwi _ i (by omega), ?_⟩
                repeat refine hX _ _ _ _ _ _ _ _ _ _ _ _ _ _ rfl ?_
                cases hsb : aSub i oth with
                | false =>
                  refine br_t (show b2i false = 0 from rfl) ?_
                  exact h152 _ _ (by rw [aScT, hsb]; rfl)
                | true =>
                  refine br_f (show ¬ b2i true = 0 by decide) ?_
                  repeat refine hX _ _ _ _ _ _ _ _ _ _ _ _ _ _ rfl ?_
                  cases u with
                  | false =>
                    refine br_t (show b2i false = 0 from rfl) ?_
                    exact h152 _ _ (by rw [aScT, hsb, ← hu]; rfl)
                  | true =>
                    refine br_f (show ¬ b2i true = 0 by decide) ?_
                    have h8 := h7 z1 (b2i true)
                    rw [show aScT A oth p s i = fac (pop i) * fac (pop (oth &&& (63 ^^^ i))) by rw [aScT, hsb, ← hu]; rfl] at h8
                    repeat refine hX _ _ _ _ _ _ _ _ _ _ _ _ _ _ rfl ?_
                    refine Or.inl ⟨_, _, hor _ i (by omega), ?_⟩
                    iterate 6 (refine hX _ _ _ _ _ _ _ _ _ _ _ _ _ _ rfl ?_)
                    rw [q_andn _ hol i (by omega)]
                    refine Or.inl ⟨_, _, hor _ _ (q_and_lt hol), ?_⟩
                    iterate 5 (refine hX _ _ _ _ _ _ _ _ _ _ _ _ _ _ rfl ?_)
                    rw [nI_1, pk_mul, nI_add]
                    exact h8
              rcases hv with ⟨rfl, rfl⟩ | ⟨z1, z2, rfl, rfl⟩
              all_goals
                repeat refine hX _ _ _ _ _ _ _ _ _ _ _ _ _ _ rfl ?_
                rw [hpe, e2]
                refine br_f (show ¬ nI (2 ^ aNp A) ≤ nI i from nI_ge (by omega) (by omega)) ?_
                repeat refine hX _ _ _ _ _ _ _ _ _ _ _ _ _ _ rfl ?_
                refine ⟨vp_in_nI (by omega) (by decide), ?_⟩
                rw [nI_clamp (by omega)]
                rw [hwe]
                repeat refine hX _ _ _ _ _ _ _ _ _ _ _ _ _ _ rfl ?_
                refine Or.inl ⟨_, _, hstr i (by omega), ?_⟩
                repeat refine hX _ _ _ _ _ _ _ _ _ _ _ _ _ _ rfl ?_
                by_cases c1 : aStr A i < aWe A s
                · rw [decide_eq_true c1] at m1 h116
                  refine br_f (show ¬ nI (aWe A s) - nI (aStr A i) ≤ 0 from of_decide_eq_false m1) ?_
                  repeat refine hX _ _ _ _ _ _ _ _ _ _ _ _ _ _ rfl ?_
                  refine ⟨vp_in_nI (by omega) (by decide), ?_⟩
                  rw [nI_clamp (by omega)]
                  rw [hsg]
                  repeat refine hX _ _ _ _ _ _ _ _ _ _ _ _ _ _ rfl ?_
                  by_cases c2 : aWe A s ≤ aStr A i + aSt A p
                  · rw [decide_eq_true c2] at m2 h116
                    refine br_f (show ¬ nI (aSt A p) < nI (aWe A s) - nI (aStr A i) from of_decide_eq_false m2) ?_
                    iterate 3 (refine hX _ _ _ _ _ _ _ _ _ _ _ _ _ _ rfl ?_)
                    exact h116 _ true rfl
                  · rw [decide_eq_false c2] at m2 h116
                    refine br_t (show nI (aSt A p) < nI (aWe A s) - nI (aStr A i) from of_decide_eq_true m2) ?_
                    iterate 2 (refine hX _ _ _ _ _ _ _ _ _ _ _ _ _ _ rfl ?_)
                    exact h116 _ false rfl
                · rw [decide_eq_false c1] at m1 h116
                  refine br_t (show nI (aWe A s) - nI (aStr A i) ≤ 0 from of_decide_eq_true m1) ?_
                  iterate 2 (refine hX _ _ _ _ _ _ _ _ _ _ _ _ _ _ rfl ?_)
                  exact h116 _ false rfl
          repeat refine hX _ _ _ _ _ _ _ _ _ _ _ _ _ _ rfl ?_
          refine Or.inl ⟨_, _, hst, ?_⟩
          repeat refine hX _ _ _ _ _ _ _ _ _ _ _ _ _ _ rfl ?_
          refine br_f (show ¬ b2i true = 0 by decide) ?_
          repeat refine hX _ _ _ _ _ _ _ _ _ _ _ _ _ _ rfl ?_
          refine Or.inl ⟨_, _, hst2, ?_⟩
          repeat refine hX _ _ _ _ _ _ _ _ _ _ _ _ _ _ rfl ?_
          refine br_t (show ¬ b2i true = 0 by decide) ?_
          repeat refine hX _ _ _ _ _ _ _ _ _ _ _ _ _ _ rfl ?_
          refine Or.inl ⟨_, _, hpu, ?_⟩
          repeat refine hX _ _ _ _ _ _ _ _ _ _ _ _ _ _ rfl ?_
          refine Or.inl ⟨_, _, hhas _, ?_⟩
          repeat refine hX _ _ _ _ _ _ _ _ _ _ _ _ _ _ rfl ?_
          refine br_t (show ¬ b2i true = 0 by decide) ?_
          iterate 8 (refine hX _ _ _ _ _ _ _ _ _ _ _ _ _ _ rfl ?_)
          rw [eo]
          iterate 4 (refine hX _ _ _ _ _ _ _ _ _ _ _ _ _ _ rfl ?_)
          exact loop (2 ^ aNp A) 0 none none (by omega) (Or.inl ⟨rfl, rfl⟩)
theorem c_power (S : zS) (d : Nat) (h : zH) {b t : Nat} (ht : t < 1000) : Ex S (d + 1) 0 0 88 [.int (nI b), .int (nI t)] h (some (.int (nI (b ^ t)))) h := by
  (refine exI rfl rfl ?_; intro X hX)
  have loop : ∀ (k i : Nat), i + k = t → X 4 [some (.int (nI b)), some (.int (nI t)), some (.int (nI (b ^ i))), some (.int (nI i))] [] h 0 0 := by
    intro k
    induction k with
    | zero =>
      intro i hi
      repeat refine hX _ _ _ _ _ _ _ _ _ _ _ _ _ _ rfl ?_
      refine br_t (show nI t ≤ nI i from nI_le (by omega) (by omega)) ?_
      repeat refine hX _ _ _ _ _ _ _ _ _ _ _ _ _ _ rfl ?_
      exact ⟨by rw [show i = t by omega], rfl⟩
    | succ k ih =>
      intro i hi
      repeat refine hX _ _ _ _ _ _ _ _ _ _ _ _ _ _ rfl ?_
      refine br_f (show ¬ nI t ≤ nI i from nI_ge (by omega) (by omega)) ?_
      have h7 := ih (i + 1) (by omega)
      rw [Nat.pow_succ] at h7
      iterate 6 (refine hX _ _ _ _ _ _ _ _ _ _ _ _ _ _ rfl ?_)
      rw [nI_1, pk_mul]
      exact h7
  iterate 4 (refine hX _ _ _ _ _ _ _ _ _ _ _ _ _ _ rfl ?_)
  exact loop t 0 (by omega)
