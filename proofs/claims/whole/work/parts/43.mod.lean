theorem m_statue (S : zS) (d : Nat) (hc : List zC) (m : mS) {A : aT} {N : aN} (hA : TWf A) (hT : MTold (mTold m) A) (hW : NWf A N) (hN : MRow A (mNow m) 0 N) (s w : Int32) : Ex S (d + 6) 0 0 119 [.ref 1000, .int s, .int w] (hc, hM m) (some (.int (spStatue A N s w))) (hc, hM m) := by
  have hns := hA.2.2.2.1
  have hny := hA.2.1
  have hst := m_isStatue S (d + 3) hc m hA hT s
  have hwr := fun j (hj : j < aNs A) => m_wronged S (d + 2) hc m hA hT hW hN hj
  have hpu := fun j (hj : j < aNs A) => m_pull S (d + 1) hc m hA hT hW hN hj
  have hof := fun j (hj : j < aNs A) y (hy : y < 10) => m_offended S (d + 1) hc m hA hT hW hN hj hy
  have hpl := fun j (hj : j < aNs A) => m_placeOf S d hc m hA hT hW hN hj
  have g5 := hT.2.2.2.2.1
  have hN := MRow_0 hN
  unfold spStatue
  cases hin : inb s (aNs A) with
  | false =>
    rw [hin] at hst
    (refine exI rfl rfl ?_; intro X hX)
    repeat refine hX _ _ _ _ _ _ _ _ _ _ _ _ _ _ rfl ?_
    refine Or.inl ⟨_, _, hst, ?_⟩
    repeat refine hX _ _ _ _ _ _ _ _ _ _ _ _ _ _ rfl ?_
    refine br_f (show ¬ ¬ b2i false = 0 by decide) ?_
    repeat refine hX _ _ _ _ _ _ _ _ _ _ _ _ _ _ rfl ?_
    exact ⟨rfl, rfl⟩
  | true =>
    rw [hin] at hst
    obtain ⟨j, hj, rfl⟩ := inb_of hin (by omega)
    simp only [cond_true, nI_clamp (show j < 2 ^ 31 by omega)]
    have hyj := hW.2.1 j hj
    (refine exI rfl rfl ?_; intro X hX)
    repeat refine hX _ _ _ _ _ _ _ _ _ _ _ _ _ _ rfl ?_
    refine Or.inl ⟨_, _, hst, ?_⟩
    repeat refine hX _ _ _ _ _ _ _ _ _ _ _ _ _ _ rfl ?_
    refine br_t (show ¬ b2i true = 0 by decide) ?_
    repeat refine hX _ _ _ _ _ _ _ _ _ _ _ _ _ _ rfl ?_
    refine ⟨fun hw => ?_, fun h0 => ⟨fun hw => ?_, fun h1 => ⟨fun hw => ?_, fun h2 => ⟨fun hw => ?_, fun h3 => ⟨fun hw => ?_, fun h4 => ⟨fun hw => ?_, fun h5 => ⟨fun hw => ?_, fun h6 => ?_⟩⟩⟩⟩⟩⟩⟩
    · subst hw
      repeat refine hX _ _ _ _ _ _ _ _ _ _ _ _ _ _ rfl ?_
      refine ⟨vp_in_nI (by omega) (by decide), ?_⟩
      rw [nI_clamp (by omega)]
      rw [hN.2.1 j hj]
      repeat refine hX _ _ _ _ _ _ _ _ _ _ _ _ _ _ rfl ?_
      exact ⟨rfl, rfl⟩
    · subst hw
      repeat refine hX _ _ _ _ _ _ _ _ _ _ _ _ _ _ rfl ?_
      rw [show (4 : Int32) + nI j = nI (4 + j) from nI_add 4 j]
      refine ⟨vp_in_nI (by omega) (by decide), ?_⟩
      rw [nI_clamp (by omega)]
      rw [(g5 j hj).1]
      repeat refine hX _ _ _ _ _ _ _ _ _ _ _ _ _ _ rfl ?_
      exact ⟨rfl, rfl⟩
    · subst hw
      repeat refine hX _ _ _ _ _ _ _ _ _ _ _ _ _ _ rfl ?_
      rw [show (10 : Int32) + nI j = nI (10 + j) from nI_add 10 j]
      refine ⟨vp_in_nI (by omega) (by decide), ?_⟩
      rw [nI_clamp (by omega)]
      rw [(g5 j hj).2]
      repeat refine hX _ _ _ _ _ _ _ _ _ _ _ _ _ _ rfl ?_
      exact ⟨rfl, rfl⟩
    · subst hw
      repeat refine hX _ _ _ _ _ _ _ _ _ _ _ _ _ _ rfl ?_
      refine Or.inl ⟨_, _, hwr j hj, ?_⟩
      repeat refine hX _ _ _ _ _ _ _ _ _ _ _ _ _ _ rfl ?_
      exact ⟨rfl, rfl⟩
    · subst hw
      repeat refine hX _ _ _ _ _ _ _ _ _ _ _ _ _ _ rfl ?_
      refine Or.inl ⟨_, _, hpu j hj, ?_⟩
      repeat refine hX _ _ _ _ _ _ _ _ _ _ _ _ _ _ rfl ?_
      exact ⟨rfl, rfl⟩
    · subst hw
      repeat refine hX _ _ _ _ _ _ _ _ _ _ _ _ _ _ rfl ?_
      refine ⟨vp_in_nI (by omega) (by decide), ?_⟩
      rw [nI_clamp (by omega)]
      rw [hN.2.1 j hj]
      repeat refine hX _ _ _ _ _ _ _ _ _ _ _ _ _ _ rfl ?_
      refine Or.inl ⟨_, _, hof j hj _ (by omega), ?_⟩
      repeat refine hX _ _ _ _ _ _ _ _ _ _ _ _ _ _ rfl ?_
      exact ⟨rfl, rfl⟩
    · subst hw
      repeat refine hX _ _ _ _ _ _ _ _ _ _ _ _ _ _ rfl ?_
      refine Or.inl ⟨_, _, hpl j hj, ?_⟩
      repeat refine hX _ _ _ _ _ _ _ _ _ _ _ _ _ _ rfl ?_
      exact ⟨rfl, rfl⟩
    · repeat refine hX _ _ _ _ _ _ _ _ _ _ _ _ _ _ rfl ?_
      exact ⟨by simp only [sel]; rw [if_neg h0, if_neg h1, if_neg h2, if_neg h3, if_neg h4, if_neg h5, if_neg h6], rfl⟩
theorem nI_b2i (b : Bool) : nI b.toNat = b2i b := by cases b <;> rfl
theorem m_one (S : zS) (d : Nat) (hc : List zC) (m : mS) {A : aT} {N : aN} (hA : TWf A) (hT : MTold (mTold m) A) (hW : NWf A N) (hN : MRow A (mNow m) 0 N) (s w : Int32) : Ex S (d + 3) 0 0 120 [.ref 1000, .int s, .int w] (hc, hM m) (some (.int (spOne A N s w))) (hc, hM m) := by
  have hnp := hA.2.2.2.2.1
  have hst := m_isOne S d hc m hA hT s
  have g6 := hT.2.2.2.2.2
  have hco := nCo_lt hA hW
  have hN := MRow_0 hN
  unfold spOne
  cases hin : inb s (aNp A) with
  | false =>
    rw [hin] at hst
    (refine exI rfl rfl ?_; intro X hX)
    repeat refine hX _ _ _ _ _ _ _ _ _ _ _ _ _ _ rfl ?_
    refine Or.inl ⟨_, _, hst, ?_⟩
    repeat refine hX _ _ _ _ _ _ _ _ _ _ _ _ _ _ rfl ?_
    refine br_f (show ¬ ¬ b2i false = 0 by decide) ?_
    repeat refine hX _ _ _ _ _ _ _ _ _ _ _ _ _ _ rfl ?_
    exact ⟨rfl, rfl⟩
  | true =>
    rw [hin] at hst
    obtain ⟨j, hj, rfl⟩ := inb_of hin (by omega)
    simp only [cond_true, nI_clamp (show j < 2 ^ 31 by omega)]
    (refine exI rfl rfl ?_; intro X hX)
    repeat refine hX _ _ _ _ _ _ _ _ _ _ _ _ _ _ rfl ?_
    refine Or.inl ⟨_, _, hst, ?_⟩
    repeat refine hX _ _ _ _ _ _ _ _ _ _ _ _ _ _ rfl ?_
    refine br_t (show ¬ b2i true = 0 by decide) ?_
    repeat refine hX _ _ _ _ _ _ _ _ _ _ _ _ _ _ rfl ?_
    refine ⟨fun hw => ?_, fun h0 => ⟨fun hw => ?_, fun h1 => ⟨fun hw => ?_, fun h2 => ⟨fun hw => ?_, fun h3 => ⟨fun hw => ?_, fun h4 => ⟨fun hw => ?_, fun h5 => ?_⟩⟩⟩⟩⟩⟩
    · subst hw
      repeat refine hX _ _ _ _ _ _ _ _ _ _ _ _ _ _ rfl ?_
      rw [show (16 : Int32) + nI j = nI (16 + j) from nI_add 16 j]
      refine ⟨vp_in_nI (by omega) (by decide), ?_⟩
      rw [nI_clamp (by omega)]
      rw [(g6 j hj).1]
      repeat refine hX _ _ _ _ _ _ _ _ _ _ _ _ _ _ rfl ?_
      exact ⟨rfl, rfl⟩
    · subst hw
      repeat refine hX _ _ _ _ _ _ _ _ _ _ _ _ _ _ rfl ?_
      rw [show (22 : Int32) + nI j = nI (22 + j) from nI_add 22 j]
      refine ⟨vp_in_nI (by omega) (by decide), ?_⟩
      rw [nI_clamp (by omega)]
      rw [(g6 j hj).2.1]
      repeat refine hX _ _ _ _ _ _ _ _ _ _ _ _ _ _ rfl ?_
      exact ⟨rfl, rfl⟩
    · subst hw
      repeat refine hX _ _ _ _ _ _ _ _ _ _ _ _ _ _ rfl ?_
      rw [show (28 : Int32) + nI j = nI (28 + j) from nI_add 28 j]
      refine ⟨vp_in_nI (by omega) (by decide), ?_⟩
      rw [nI_clamp (by omega)]
      rw [(g6 j hj).2.2.1]
      repeat refine hX _ _ _ _ _ _ _ _ _ _ _ _ _ _ rfl ?_
      exact ⟨rfl, rfl⟩
    · subst hw
      repeat refine hX _ _ _ _ _ _ _ _ _ _ _ _ _ _ rfl ?_
      rw [show (34 : Int32) + nI j = nI (34 + j) from nI_add 34 j]
      refine ⟨vp_in_nI (by omega) (by decide), ?_⟩
      rw [nI_clamp (by omega)]
      rw [(g6 j hj).2.2.2]
      repeat refine hX _ _ _ _ _ _ _ _ _ _ _ _ _ _ rfl ?_
      exact ⟨rfl, rfl⟩
    · subst hw
      repeat refine hX _ _ _ _ _ _ _ _ _ _ _ _ _ _ rfl ?_
      refine ⟨by unfold vp_in; decide, ?_⟩
      rw [show (6 : Int32).toNatClampNeg = 6 from rfl]
      rw [hN.1]
      repeat refine hX _ _ _ _ _ _ _ _ _ _ _ _ _ _ rfl ?_
      exact ⟨by simp only [sel]; rw [q_shr1 _ hco j (by omega), nI_b2i]; rfl, rfl⟩
    · subst hw
      repeat refine hX _ _ _ _ _ _ _ _ _ _ _ _ _ _ rfl ?_
      rw [show (7 : Int32) + nI j = nI (7 + j) from nI_add 7 j]
      refine ⟨vp_in_nI (by omega) (by decide), ?_⟩
      rw [nI_clamp (by omega)]
      rw [(hN.2.2 j hj).1]
      repeat refine hX _ _ _ _ _ _ _ _ _ _ _ _ _ _ rfl ?_
      exact ⟨rfl, rfl⟩
    · repeat refine hX _ _ _ _ _ _ _ _ _ _ _ _ _ _ rfl ?_
      exact ⟨by simp only [sel]; rw [if_neg h0, if_neg h1, if_neg h2, if_neg h3, if_neg h4, if_neg h5], rfl⟩
theorem m_now (S : zS) (d : Nat) (hc : List zC) (m : mS) {a : aS} (hA : AWf a) (hR : MRel m a) (w : Int32) : Ex S (d + 6) 0 0 121 [.ref 1000, .int w] (hc, hM m) (some (.int (spNow a w))) (hc, hM m) := by
  have hns := hA.1.2.2.2.1
  have hny := hA.1.2.1
  have hmv := fun j (hj : j < aNs (sT a)) => m_moves S d hc m hA.1 hR.1 hA.2.1 hR.2.1 hj
  have hsi := fun y => m_statueIn S (d + 4) hc m hA.1 hR.1 hA.2.1 hR.2.1 y
  have g0 := hR.1.1
  have g1 := hR.1.2.1
  have gu := hR.2.2.2.1.1
  have hN := MRow_0 hR.2.1
  unfold spNow
  (refine exI rfl rfl ?_; intro X hX)
  have loop1 : ∀ (k j : Nat), j + k = aNs (sT a) → w = 1 → X 42 [some (.ref 1000), some (.int w), some (.int (nI (nmask j (aMov (sT a) (sN a))))), some (.int (nI j))] [] (hc, hM m) 0 0 := by
    intro k
    induction k with
    | zero =>
      intro j hj hw
      repeat refine hX _ _ _ _ _ _ _ _ _ _ _ _ _ _ rfl ?_
      refine ⟨by unfold vp_in; decide, ?_⟩
      rw [show (1 : Int32).toNatClampNeg = 1 from rfl]
      rw [g1]
      repeat refine hX _ _ _ _ _ _ _ _ _ _ _ _ _ _ rfl ?_
      refine br_t (show nI (aNs (sT a)) ≤ nI j from nI_le (by omega) (by omega)) ?_
      repeat refine hX _ _ _ _ _ _ _ _ _ _ _ _ _ _ rfl ?_
      exact ⟨by rw [hw, show j = aNs (sT a) by omega]; rfl, rfl⟩
    | succ k ih =>
      intro j hj hw
      repeat refine hX _ _ _ _ _ _ _ _ _ _ _ _ _ _ rfl ?_
      refine ⟨by unfold vp_in; decide, ?_⟩
      rw [show (1 : Int32).toNatClampNeg = 1 from rfl]
      rw [g1]
      repeat refine hX _ _ _ _ _ _ _ _ _ _ _ _ _ _ rfl ?_
      refine br_f (show ¬ nI (aNs (sT a)) ≤ nI j from nI_ge (by omega) (by omega)) ?_
      repeat refine hX _ _ _ _ _ _ _ _ _ _ _ _ _ _ rfl ?_
      refine Or.inl ⟨_, _, hmv j (by omega), ?_⟩
      repeat refine hX _ _ _ _ _ _ _ _ _ _ _ _ _ _ rfl ?_
      have h7 := ih (j + 1) (by omega) hw
      rw [nmask] at h7
      cases hb : aMov (sT a) (sN a) j with
      | false =>
        refine br_t (show b2i false = 0 from rfl) ?_
        iterate 5 (refine hX _ _ _ _ _ _ _ _ _ _ _ _ _ _ rfl ?_)
        rw [nI_1, show nI (nmask j (aMov (sT a) (sN a))) ||| 0 = nI (nmask j (aMov (sT a) (sN a))) from Int32.or_zero]
        rw [hb] at h7
        exact h7
      | true =>
        refine br_f (show ¬ b2i true = 0 by decide) ?_
        iterate 8 (refine hX _ _ _ _ _ _ _ _ _ _ _ _ _ _ rfl ?_)
        rw [nI_1, q_shl j (by omega), nI_or, nmask_set]
        rw [hb] at h7
        exact h7
  have loop2 : ∀ (k j : Nat), j + k = aNy (sT a) → w = 2 → X 80 [some (.ref 1000), some (.int w), some (.int (nI (nmask j (fun y => decide (aSin (sT a) (sN a) (nI y) = -9))))), some (.int (nI j))] [] (hc, hM m) 0 0 := by
    intro k
    induction k with
    | zero =>
      intro j hj hw
      repeat refine hX _ _ _ _ _ _ _ _ _ _ _ _ _ _ rfl ?_
      refine ⟨by unfold vp_in; decide, ?_⟩
      rw [show (0 : Int32).toNatClampNeg = 0 from rfl]
      rw [g0]
      repeat refine hX _ _ _ _ _ _ _ _ _ _ _ _ _ _ rfl ?_
      refine br_t (show nI (aNy (sT a)) ≤ nI j from nI_le (by omega) (by omega)) ?_
      repeat refine hX _ _ _ _ _ _ _ _ _ _ _ _ _ _ rfl ?_
      exact ⟨by rw [hw, show j = aNy (sT a) by omega]; rfl, rfl⟩
    | succ k ih =>
      intro j hj hw
      repeat refine hX _ _ _ _ _ _ _ _ _ _ _ _ _ _ rfl ?_
      refine ⟨by unfold vp_in; decide, ?_⟩
      rw [show (0 : Int32).toNatClampNeg = 0 from rfl]
      rw [g0]
      repeat refine hX _ _ _ _ _ _ _ _ _ _ _ _ _ _ rfl ?_
      refine br_f (show ¬ nI (aNy (sT a)) ≤ nI j from nI_ge (by omega) (by omega)) ?_
      repeat refine hX _ _ _ _ _ _ _ _ _ _ _ _ _ _ rfl ?_
      refine Or.inl ⟨_, _, hsi (nI j), ?_⟩
      repeat refine hX _ _ _ _ _ _ _ _ _ _ _ _ _ _ rfl ?_
      have h7 := ih (j + 1) (by omega) hw
      rw [nmask] at h7
      by_cases hb : aSin (sT a) (sN a) (nI j) = -9
      · refine br_f (show ¬ ¬ aSin (sT a) (sN a) (nI j) = -9 from fun h => h hb) ?_
        iterate 8 (refine hX _ _ _ _ _ _ _ _ _ _ _ _ _ _ rfl ?_)
        rw [nI_1, q_shl j (by omega), nI_or, nmask_set]
        rw [decide_eq_true hb] at h7
        exact h7
      · refine br_t (show ¬ aSin (sT a) (sN a) (nI j) = -9 from hb) ?_
        iterate 5 (refine hX _ _ _ _ _ _ _ _ _ _ _ _ _ _ rfl ?_)
        rw [nI_1, show nI (nmask j (fun y => decide (aSin (sT a) (sN a) (nI y) = -9))) ||| 0 = nI (nmask j (fun y => decide (aSin (sT a) (sN a) (nI y) = -9))) from Int32.or_zero]
        rw [decide_eq_false hb] at h7
        exact h7
  repeat refine hX _ _ _ _ _ _ _ _ _ _ _ _ _ _ rfl ?_
  refine ⟨fun hw => ?_, fun h0 => ⟨fun hw => ?_, fun h1 => ⟨fun hw => ?_, fun h2 => ⟨fun hw => ?_, fun h3 => ?_⟩⟩⟩⟩
  · repeat refine hX _ _ _ _ _ _ _ _ _ _ _ _ _ _ rfl ?_
    refine ⟨by unfold vp_in; decide, ?_⟩
    rw [show (6 : Int32).toNatClampNeg = 6 from rfl]
    rw [hN.1]
    repeat refine hX _ _ _ _ _ _ _ _ _ _ _ _ _ _ rfl ?_
    exact ⟨by rw [hw]; rfl, rfl⟩
  · iterate 2 (refine hX _ _ _ _ _ _ _ _ _ _ _ _ _ _ rfl ?_)
    exact loop1 (aNs (sT a)) 0 (by omega) hw
  · iterate 2 (refine hX _ _ _ _ _ _ _ _ _ _ _ _ _ _ rfl ?_)
    exact loop2 (aNy (sT a)) 0 (by omega) hw
  · repeat refine hX _ _ _ _ _ _ _ _ _ _ _ _ _ _ rfl ?_
    rw [gu]
    exact ⟨by rw [hw]; rfl, rfl⟩
  · repeat refine hX _ _ _ _ _ _ _ _ _ _ _ _ _ _ rfl ?_
    exact ⟨by simp only [sel]; rw [if_neg h0, if_neg h1, if_neg h2, if_neg h3], rfl⟩
theorem m_offends (S : zS) (d : Nat) (hc : List zC) (m : mS) {A : aT} {N : aN} (hA : TWf A) (hT : MTold (mTold m) A) (hW : NWf A N) (hN : MRow A (mNow m) 0 N) (s y : Int32) : Ex S (d + 5) 0 0 133 [.ref 1000, .int s, .int y] (hc, hM m) (some (.int (spOffends A N s y))) (hc, hM m) := by
  have hns := hA.2.2.2.1
  have hny := hA.2.1
  have hst := m_isStatue S (d + 2) hc m hA hT s
  have hya := m_isYard S (d + 2) hc m hA hT y
  have hof := fun j (hj : j < aNs A) y (hy : y < 10) => m_offended S d hc m hA hT hW hN hj hy
  unfold spOffends
  cases hin : inb s (aNs A) with
  | false =>
    rw [hin] at hst
    (refine exI rfl rfl ?_; intro X hX)
    repeat refine hX _ _ _ _ _ _ _ _ _ _ _ _ _ _ rfl ?_
    refine Or.inl ⟨_, _, hst, ?_⟩
    repeat refine hX _ _ _ _ _ _ _ _ _ _ _ _ _ _ rfl ?_
    refine br_t (show b2i false = 0 from rfl) ?_
    repeat refine hX _ _ _ _ _ _ _ _ _ _ _ _ _ _ rfl ?_
    exact ⟨rfl, rfl⟩
  | true =>
    rw [hin] at hst
    obtain ⟨j, hj, rfl⟩ := inb_of hin (by omega)
    cases hiy : inb y (aNy A) with
    | false =>
      rw [hiy] at hya
      (refine exI rfl rfl ?_; intro X hX)
      repeat refine hX _ _ _ _ _ _ _ _ _ _ _ _ _ _ rfl ?_
      refine Or.inl ⟨_, _, hst, ?_⟩
      repeat refine hX _ _ _ _ _ _ _ _ _ _ _ _ _ _ rfl ?_
      refine br_f (show ¬ b2i true = 0 by decide) ?_
      repeat refine hX _ _ _ _ _ _ _ _ _ _ _ _ _ _ rfl ?_
      refine Or.inl ⟨_, _, hya, ?_⟩
      repeat refine hX _ _ _ _ _ _ _ _ _ _ _ _ _ _ rfl ?_
      refine br_t (show b2i false = 0 from rfl) ?_
      repeat refine hX _ _ _ _ _ _ _ _ _ _ _ _ _ _ rfl ?_
      exact ⟨rfl, rfl⟩
    | true =>
      rw [hiy] at hya
      obtain ⟨z, hz, rfl⟩ := inb_of hiy (by omega)
      simp only [cond_true, Bool.and_self, nI_clamp (show j < 2 ^ 31 by omega), nI_clamp (show z < 2 ^ 31 by omega)]
      (refine exI rfl rfl ?_; intro X hX)
      repeat refine hX _ _ _ _ _ _ _ _ _ _ _ _ _ _ rfl ?_
      refine Or.inl ⟨_, _, hst, ?_⟩
      repeat refine hX _ _ _ _ _ _ _ _ _ _ _ _ _ _ rfl ?_
      refine br_f (show ¬ b2i true = 0 by decide) ?_
      repeat refine hX _ _ _ _ _ _ _ _ _ _ _ _ _ _ rfl ?_
      refine Or.inl ⟨_, _, hya, ?_⟩
      repeat refine hX _ _ _ _ _ _ _ _ _ _ _ _ _ _ rfl ?_
      refine br_f (show ¬ b2i true = 0 by decide) ?_
      repeat refine hX _ _ _ _ _ _ _ _ _ _ _ _ _ _ rfl ?_
      refine Or.inl ⟨_, _, hof j hj z (by omega), ?_⟩
      repeat refine hX _ _ _ _ _ _ _ _ _ _ _ _ _ _ rfl ?_
      exact ⟨rfl, rfl⟩
theorem m_count (S : zS) (d : Nat) (hc : List zC) (m : mS) {a : aS} (hR : MRel m a) (w : Int32) : Ex S (d + 1) 0 0 148 [.ref 1000, .int w] (hc, hM m) (some (.int (spCount a w))) (hc, hM m) := by
  obtain ⟨⟨g0, g1, g2, g3, -, -⟩, -, ⟨g5, -⟩, -, -, ⟨g6, -⟩, -⟩ := hR
  unfold spCount
  (refine exI rfl rfl ?_; intro X hX)
  repeat refine hX _ _ _ _ _ _ _ _ _ _ _ _ _ _ rfl ?_
  refine ⟨fun hw => ?_, fun h0 => ⟨fun hw => ?_, fun h1 => ⟨fun hw => ?_, fun h2 => ⟨fun hw => ?_, fun h3 => ⟨fun hw => ?_, fun h4 => ⟨fun hw => ?_, fun h5 => ?_⟩⟩⟩⟩⟩⟩
  · subst hw
    repeat refine hX _ _ _ _ _ _ _ _ _ _ _ _ _ _ rfl ?_
    refine ⟨by unfold vp_in; decide, ?_⟩
    rw [show (0 : Int32).toNatClampNeg = 0 from rfl]
    rw [g0]
    repeat refine hX _ _ _ _ _ _ _ _ _ _ _ _ _ _ rfl ?_
    exact ⟨rfl, rfl⟩
  · subst hw
    repeat refine hX _ _ _ _ _ _ _ _ _ _ _ _ _ _ rfl ?_
    refine ⟨by unfold vp_in; decide, ?_⟩
    rw [show (1 : Int32).toNatClampNeg = 1 from rfl]
    rw [g1]
    repeat refine hX _ _ _ _ _ _ _ _ _ _ _ _ _ _ rfl ?_
    exact ⟨rfl, rfl⟩
  · subst hw
    repeat refine hX _ _ _ _ _ _ _ _ _ _ _ _ _ _ rfl ?_
    refine ⟨by unfold vp_in; decide, ?_⟩
    rw [show (2 : Int32).toNatClampNeg = 2 from rfl]
    rw [g2]
    repeat refine hX _ _ _ _ _ _ _ _ _ _ _ _ _ _ rfl ?_
    exact ⟨rfl, rfl⟩
  · subst hw
    repeat refine hX _ _ _ _ _ _ _ _ _ _ _ _ _ _ rfl ?_
    refine ⟨by unfold vp_in; decide, ?_⟩
    rw [show (3 : Int32).toNatClampNeg = 3 from rfl]
    rw [g3]
    repeat refine hX _ _ _ _ _ _ _ _ _ _ _ _ _ _ rfl ?_
    exact ⟨rfl, rfl⟩
  · subst hw
    repeat refine hX _ _ _ _ _ _ _ _ _ _ _ _ _ _ rfl ?_
    rw [g6]
    exact ⟨rfl, rfl⟩
  · subst hw
    repeat refine hX _ _ _ _ _ _ _ _ _ _ _ _ _ _ rfl ?_
    rw [g5]
    exact ⟨rfl, rfl⟩
  · repeat refine hX _ _ _ _ _ _ _ _ _ _ _ _ _ _ rfl ?_
    exact ⟨by simp only [sel]; rw [if_neg h0, if_neg h1, if_neg h2, if_neg h3, if_neg h4, if_neg h5], rfl⟩
theorem m_trace (S : zS) (d : Nat) (hc : List zC) (m : mS) {a : aS} (hR : MRel m a) : Ex S (d + 1) 0 0 149 [.ref 1000] (hc, hM m) (some (.long (sTr a))) (hc, hM m) := by
  obtain ⟨-, -, -, -, -, -, hr⟩ := hR
  (refine exI rfl rfl ?_; intro X hX)
  repeat refine hX _ _ _ _ _ _ _ _ _ _ _ _ _ _ rfl ?_
  rw [hr]
  exact ⟨rfl, rfl⟩
