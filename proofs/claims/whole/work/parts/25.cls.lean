/-! ===== the class: what is read ===== -/
theorem c_hasX (S : zS) (d : Nat) (h : zH) {a p : Nat} (ha : a < 64) (hp : p < 6) : Ex S (d + 1) 0 0 82 [.int (nI a), .int (nI p)] h (some (.int (b2i (a.testBit p)))) h := by
  have := c_has S d h (nI a) (nI p)
  rwa [q_has a ha p hp] at this
theorem c_wr (S : zS) (d : Nat) (sw : Bool) (c : cS) (hm : List zC) {A : aT} {N : aN} (hA : TWf A) (hT : TRel (cTo c) A) (hN : NRel A (cSc c) N) {j : Nat} (hj : j < aNs A) : Ex S (d + 1) 0 0 63 [.ref 0, .int (nI j)] (hC sw c, hm) (some (.int (nI (aWr A N j)))) (hC sw c, hm) := by
  have hns := hA.2.2.2.1
  have hnp := hA.2.2.2.2.1
  have := c_wrongedBy S d sw c hm (s := j) (by omega)
  obtain ⟨-, -, -, -, h5, -⟩ := hT
  obtain ⟨-, -, h6⟩ := hN
  rwa [(h5 j hj).2.2, h6 j (by omega), q_or _ (nmask_lt64 hnp _) _ (nmask_lt64 hnp _), nmask_or] at this
theorem c_strengthOf (S : zS) (d : Nat) (sw : Bool) (c : cS) (hm : List zC) {A : aT} (hA : TWf A) (hT : TRel (cTo c) A) {set : Nat} (hs : set < 64) : Ex S (d + 2) 0 0 35 [.ref (toR sw), .int (nI set)] (hC sw c, hm) (some (.int (nI (aStr A set)))) (hC sw c, hm) := by
  have hnp := hA.2.2.2.2.1
  obtain ⟨-, -, -, hp, -, h6⟩ := hT
  cases sw
  case false =>
    (refine exI rfl rfl ?_; intro X hX)
    have loop : ∀ (k j : Nat), j + k = aNp A → X 4 [some (.ref 12), some (.int (nI set)), some (.int (nI (aSum (aSt A) set j))), some (.int (nI j))] [] (hC false c, hm) 0 0 := by
      intro k
      induction k with
      | zero =>
        intro j hj
        repeat refine hX _ _ _ _ _ _ _ _ _ _ _ _ _ _ rfl ?_
        rw [hp]
        refine br_t (show nI (aNp A) ≤ nI j from nI_le (by omega) (by omega)) ?_
        repeat refine hX _ _ _ _ _ _ _ _ _ _ _ _ _ _ rfl ?_
        exact ⟨by rw [show j = aNp A by omega]; rfl, rfl⟩
      | succ k ih =>
        intro j hj
        repeat refine hX _ _ _ _ _ _ _ _ _ _ _ _ _ _ rfl ?_
        rw [hp]
        refine br_f (show ¬ nI (aNp A) ≤ nI j from nI_ge (by omega) (by omega)) ?_
        repeat refine hX _ _ _ _ _ _ _ _ _ _ _ _ _ _ rfl ?_
        refine Or.inl ⟨_, _, c_hasX S d _ hs (by omega), ?_⟩
        repeat refine hX _ _ _ _ _ _ _ _ _ _ _ _ _ _ rfl ?_
        have h7 := ih (j + 1) (by omega)
        rw [aSum] at h7
        cases hb : set.testBit j with
        | false =>
          refine br_t (show b2i false = 0 from rfl) ?_
          iterate 2 (refine hX _ _ _ _ _ _ _ _ _ _ _ _ _ _ rfl ?_)
          rw [nI_1]
          rw [hb] at h7
          exact h7
        | true =>
          refine br_f (show ¬ b2i true = 0 by decide) ?_
          repeat refine hX _ _ _ _ _ _ _ _ _ _ _ _ _ _ rfl ?_
          refine ⟨vp_in_nI (by omega) (by decide), ?_⟩
          rw [nI_clamp (by omega)]
          rw [(h6 j (by omega)).2.1]
          iterate 4 (refine hX _ _ _ _ _ _ _ _ _ _ _ _ _ _ rfl ?_)
          rw [nI_1, nI_add]
          rw [hb] at h7
          exact h7
    iterate 4 (refine hX _ _ _ _ _ _ _ _ _ _ _ _ _ _ rfl ?_)
    exact loop (aNp A) 0 (by omega)
  case true =>
    (refine exI rfl rfl ?_; intro X hX)
    have loop : ∀ (k j : Nat), j + k = aNp A → X 4 [some (.ref 3), some (.int (nI set)), some (.int (nI (aSum (aSt A) set j))), some (.int (nI j))] [] (hC true c, hm) 0 0 := by
      intro k
      induction k with
      | zero =>
        intro j hj
        repeat refine hX _ _ _ _ _ _ _ _ _ _ _ _ _ _ rfl ?_
        rw [hp]
        refine br_t (show nI (aNp A) ≤ nI j from nI_le (by omega) (by omega)) ?_
        repeat refine hX _ _ _ _ _ _ _ _ _ _ _ _ _ _ rfl ?_
        exact ⟨by rw [show j = aNp A by omega]; rfl, rfl⟩
      | succ k ih =>
        intro j hj
        repeat refine hX _ _ _ _ _ _ _ _ _ _ _ _ _ _ rfl ?_
        rw [hp]
        refine br_f (show ¬ nI (aNp A) ≤ nI j from nI_ge (by omega) (by omega)) ?_
        repeat refine hX _ _ _ _ _ _ _ _ _ _ _ _ _ _ rfl ?_
        refine Or.inl ⟨_, _, c_hasX S d _ hs (by omega), ?_⟩
        repeat refine hX _ _ _ _ _ _ _ _ _ _ _ _ _ _ rfl ?_
        have h7 := ih (j + 1) (by omega)
        rw [aSum] at h7
        cases hb : set.testBit j with
        | false =>
          refine br_t (show b2i false = 0 from rfl) ?_
          iterate 2 (refine hX _ _ _ _ _ _ _ _ _ _ _ _ _ _ rfl ?_)
          rw [nI_1]
          rw [hb] at h7
          exact h7
        | true =>
          refine br_f (show ¬ b2i true = 0 by decide) ?_
          repeat refine hX _ _ _ _ _ _ _ _ _ _ _ _ _ _ rfl ?_
          refine ⟨vp_in_nI (by omega) (by decide), ?_⟩
          rw [nI_clamp (by omega)]
          rw [(h6 j (by omega)).2.1]
          iterate 4 (refine hX _ _ _ _ _ _ _ _ _ _ _ _ _ _ rfl ?_)
          rw [nI_1, nI_add]
          rw [hb] at h7
          exact h7
    iterate 4 (refine hX _ _ _ _ _ _ _ _ _ _ _ _ _ _ rfl ?_)
    exact loop (aNp A) 0 (by omega)
