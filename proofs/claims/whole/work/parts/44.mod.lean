/-! ===== the reference: text, what was seen, who, kinds ===== -/
theorem m_type (S : zS) (d : Nat) (hc : List zC) (m : mS) {a : aS} (hA : AWf a) (hR : MRel m a) (x : Int32) : ∃ m', Ex S (d + 2) 0 0 94 [.ref 1000, .int x] (hc, hM m) (some (.int (spType a x).1)) (hc, hM m') ∧ MRel m' (spType a x).2 := by
  obtain ⟨hle, htx⟩ := hA.2.2.1
  obtain ⟨hlt, htt⟩ := hR.2.2.1
  have hin64 := fun h => m_in S d h x.toInt64 0 (lN 255)
  rw [in64c x (by decide)] at hin64
  unfold spType
  cases hin : inb x 256 with
  | false =>
    rw [hin] at hin64
    refine ⟨m, ?_, hR⟩
    (refine exI rfl rfl ?_; intro X hX)
    repeat refine hX _ _ _ _ _ _ _ _ _ _ _ _ _ _ rfl ?_
    refine Or.inl ⟨_, _, hin64 _, ?_⟩
    repeat refine hX _ _ _ _ _ _ _ _ _ _ _ _ _ _ rfl ?_
    refine br_f (show ¬ ¬ b2i false = 0 by decide) ?_
    repeat refine hX _ _ _ _ _ _ _ _ _ _ _ _ _ _ rfl ?_
    exact ⟨rfl, rfl⟩
  | true =>
    rw [hin] at hin64
    obtain ⟨j, hj, rfl⟩ := inb_of hin (by decide)
    simp only [cond_true, nI_clamp (show j < 2 ^ 31 by omega)]
    by_cases h150 : sLen a = 150
    · rw [if_pos h150]
      refine ⟨m, ?_, hR⟩
      (refine exI rfl rfl ?_; intro X hX)
      repeat refine hX _ _ _ _ _ _ _ _ _ _ _ _ _ _ rfl ?_
      refine Or.inl ⟨_, _, hin64 _, ?_⟩
      repeat refine hX _ _ _ _ _ _ _ _ _ _ _ _ _ _ rfl ?_
      refine br_t (show ¬ b2i true = 0 by decide) ?_
      repeat refine hX _ _ _ _ _ _ _ _ _ _ _ _ _ _ rfl ?_
      rw [hlt, h150]
      refine br_f (show ¬ ¬ nI 150 = 150 by decide) ?_
      repeat refine hX _ _ _ _ _ _ _ _ _ _ _ _ _ _ rfl ?_
      exact ⟨rfl, rfl⟩
    · rw [if_neg h150]
      refine ⟨s_mLength (s_mText m (upd (mText m) (sLen a) (nI j))) (nI (sLen a + 1)), ?_, ⟨hR.1, hR.2.1, ⟨rfl, fun i hi => ?_⟩, hR.2.2.2.1, hR.2.2.2.2.1, hR.2.2.2.2.2.1, hR.2.2.2.2.2.2⟩⟩
      rotate_left
      · show upd (mText m) (sLen a) (nI j) i = nI (aup (sTx a) (sLen a) j i)
        by_cases hi2 : i = sLen a
        · rw [hi2, pk_us, aup_s]
        · have hi3 : i < sLen a + 1 := hi
          rw [pk_un hi2, aup_n _ _ hi2, htt i (by omega)]
      · (refine exI rfl rfl ?_; intro X hX)
        repeat refine hX _ _ _ _ _ _ _ _ _ _ _ _ _ _ rfl ?_
        refine Or.inl ⟨_, _, hin64 _, ?_⟩
        repeat refine hX _ _ _ _ _ _ _ _ _ _ _ _ _ _ rfl ?_
        refine br_t (show ¬ b2i true = 0 by decide) ?_
        repeat refine hX _ _ _ _ _ _ _ _ _ _ _ _ _ _ rfl ?_
        rw [hlt]
        refine br_t (show ¬ nI (sLen a) = nI 150 from fun h => h150 ((nI_eq (by omega) (by decide)).mp h)) ?_
        repeat refine hX _ _ _ _ _ _ _ _ _ _ _ _ _ _ rfl ?_
        rw [hlt]
        refine ⟨vp_in_nI (by omega) (by decide), ?_⟩
        rw [nI_clamp (by omega)]
        repeat refine hX _ _ _ _ _ _ _ _ _ _ _ _ _ _ rfl ?_
        rw [hlt, nI_1]
        exact ⟨rfl, rfl⟩
theorem m_clear (S : zS) (d : Nat) (hc : List zC) (m : mS) {a : aS} (hR : MRel m a) : ∃ m', Ex S (d + 1) 0 0 95 [.ref 1000] (hc, hM m) (some (.int (spClear a).1)) (hc, hM m') ∧ MRel m' (spClear a).2 := by
  obtain ⟨hlt, htt⟩ := hR.2.2.1
  refine ⟨s_mLength m 0, ?_, ⟨hR.1, hR.2.1, ⟨rfl, fun i hi => absurd hi (Nat.not_lt_zero i)⟩, hR.2.2.2.1, hR.2.2.2.2.1, hR.2.2.2.2.2.1, hR.2.2.2.2.2.2⟩⟩
  (refine exI rfl rfl ?_; intro X hX)
  repeat refine hX _ _ _ _ _ _ _ _ _ _ _ _ _ _ rfl ?_
  rw [hlt]
  exact ⟨rfl, rfl⟩
theorem m_forget (S : zS) (d : Nat) (hc : List zC) (m : mS) {a : aS} (hR : MRel m a) : ∃ m', Ex S (d + 1) 0 0 136 [.ref 1000] (hc, hM m) (some (.int (spForget a).1)) (hc, hM m') ∧ MRel m' (spForget a).2 := by
  obtain ⟨hq, -⟩ := hR.2.2.2.2.2.1
  refine ⟨s_mSeen m 0, ?_, ⟨hR.1, hR.2.1, hR.2.2.1, hR.2.2.2.1, hR.2.2.2.2.1, ⟨rfl, fun i hi => absurd hi (Nat.not_lt_zero i)⟩, hR.2.2.2.2.2.2⟩⟩
  (refine exI rfl rfl ?_; intro X hX)
  repeat refine hX _ _ _ _ _ _ _ _ _ _ _ _ _ _ rfl ?_
  rw [hq]
  exact ⟨rfl, rfl⟩
theorem m_sees (S : zS) (d : Nat) (hc : List zC) (m : mS) {a : aS} (hA : AWf a) (hR : MRel m a) (s w : Int32) : ∃ m', Ex S (d + 3) 0 0 135 [.ref 1000, .int s, .int w] (hc, hM m) (some (.int (spSees a s w).1)) (hc, hM m') ∧ MRel m' (spSees a s w).2 := by
  have hns := hA.1.2.2.2.1
  obtain ⟨hq6, hqq⟩ := hA.2.2.2.2.2
  obtain ⟨hq, hsq⟩ := hR.2.2.2.2.2.1
  have hst := m_isStatue S d hc m hA.1 hR.1 s
  have hin64 := fun h => m_in S (d + 1) h w.toInt64 0 (lN 1)
  rw [in64c w (by decide)] at hin64
  unfold spSees
  cases hin : inb s (aNs (sT a)) with
  | false =>
    rw [hin] at hst
    refine ⟨m, ?_, hR⟩
    (refine exI rfl rfl ?_; intro X hX)
    repeat refine hX _ _ _ _ _ _ _ _ _ _ _ _ _ _ rfl ?_
    refine Or.inl ⟨_, _, hst, ?_⟩
    repeat refine hX _ _ _ _ _ _ _ _ _ _ _ _ _ _ rfl ?_
    refine br_t (show b2i false = 0 from rfl) ?_
    repeat refine hX _ _ _ _ _ _ _ _ _ _ _ _ _ _ rfl ?_
    exact ⟨rfl, rfl⟩
  | true =>
    rw [hin] at hst
    obtain ⟨j, hj, rfl⟩ := inb_of hin (by omega)
    cases hiw : inb w 2 with
    | false =>
      rw [hiw] at hin64
      refine ⟨m, ?_, hR⟩
      (refine exI rfl rfl ?_; intro X hX)
      repeat refine hX _ _ _ _ _ _ _ _ _ _ _ _ _ _ rfl ?_
      refine Or.inl ⟨_, _, hst, ?_⟩
      repeat refine hX _ _ _ _ _ _ _ _ _ _ _ _ _ _ rfl ?_
      refine br_f (show ¬ b2i true = 0 by decide) ?_
      repeat refine hX _ _ _ _ _ _ _ _ _ _ _ _ _ _ rfl ?_
      refine Or.inl ⟨_, _, hin64 _, ?_⟩
      repeat refine hX _ _ _ _ _ _ _ _ _ _ _ _ _ _ rfl ?_
      refine br_f (show ¬ ¬ b2i false = 0 by decide) ?_
      repeat refine hX _ _ _ _ _ _ _ _ _ _ _ _ _ _ rfl ?_
      exact ⟨rfl, rfl⟩
    | true =>
      rw [hiw] at hin64
      obtain ⟨z, hz, rfl⟩ := inb_of hiw (by decide)
      simp only [cond_true, Bool.and_self, nI_clamp (show j < 2 ^ 31 by omega), nI_clamp (show z < 2 ^ 31 by omega)]
      by_cases h6 : sQ a = 6
      · rw [if_pos h6]
        refine ⟨m, ?_, hR⟩
        (refine exI rfl rfl ?_; intro X hX)
        repeat refine hX _ _ _ _ _ _ _ _ _ _ _ _ _ _ rfl ?_
        refine Or.inl ⟨_, _, hst, ?_⟩
        repeat refine hX _ _ _ _ _ _ _ _ _ _ _ _ _ _ rfl ?_
        refine br_f (show ¬ b2i true = 0 by decide) ?_
        repeat refine hX _ _ _ _ _ _ _ _ _ _ _ _ _ _ rfl ?_
        refine Or.inl ⟨_, _, hin64 _, ?_⟩
        repeat refine hX _ _ _ _ _ _ _ _ _ _ _ _ _ _ rfl ?_
        refine br_t (show ¬ b2i true = 0 by decide) ?_
        repeat refine hX _ _ _ _ _ _ _ _ _ _ _ _ _ _ rfl ?_
        rw [hq, h6]
        refine br_f (show ¬ ¬ nI 6 = 6 by decide) ?_
        repeat refine hX _ _ _ _ _ _ _ _ _ _ _ _ _ _ rfl ?_
        exact ⟨rfl, rfl⟩
      · rw [if_neg h6]
        refine ⟨s_mSeen (s_mSeenIs (s_mSeenOf m (upd (mSeenOf m) (sQ a) (nI j))) (upd (mSeenIs m) (sQ a) (nI z))) (nI (sQ a + 1)), ?_, ⟨hR.1, hR.2.1, hR.2.2.1, hR.2.2.2.1, hR.2.2.2.2.1, ⟨rfl, fun i hi => ?_⟩, hR.2.2.2.2.2.2⟩⟩
        rotate_left
        · show upd (mSeenOf m) (sQ a) (nI j) i = nI (aup (sOf a) (sQ a) j i) ∧ upd (mSeenIs m) (sQ a) (nI z) i = nI (aup (sIs a) (sQ a) z i)
          by_cases hi2 : i = sQ a
          · rw [hi2, pk_us, pk_us, aup_s, aup_s]; exact ⟨rfl, rfl⟩
          · have hi3 : i < sQ a + 1 := hi
            rw [pk_un hi2, pk_un hi2, aup_n _ _ hi2, aup_n _ _ hi2]
            exact hsq i (by omega)
        · (refine exI rfl rfl ?_; intro X hX)
          repeat refine hX _ _ _ _ _ _ _ _ _ _ _ _ _ _ rfl ?_
          refine Or.inl ⟨_, _, hst, ?_⟩
          repeat refine hX _ _ _ _ _ _ _ _ _ _ _ _ _ _ rfl ?_
          refine br_f (show ¬ b2i true = 0 by decide) ?_
          repeat refine hX _ _ _ _ _ _ _ _ _ _ _ _ _ _ rfl ?_
          refine Or.inl ⟨_, _, hin64 _, ?_⟩
          repeat refine hX _ _ _ _ _ _ _ _ _ _ _ _ _ _ rfl ?_
          refine br_t (show ¬ b2i true = 0 by decide) ?_
          repeat refine hX _ _ _ _ _ _ _ _ _ _ _ _ _ _ rfl ?_
          rw [hq]
          refine br_t (show ¬ nI (sQ a) = nI 6 from fun h => h6 ((nI_eq (by omega) (by decide)).mp h)) ?_
          repeat refine hX _ _ _ _ _ _ _ _ _ _ _ _ _ _ rfl ?_
          rw [hq]
          refine ⟨vp_in_nI (by omega) (by decide), ?_⟩
          rw [nI_clamp (by omega)]
          repeat refine hX _ _ _ _ _ _ _ _ _ _ _ _ _ _ rfl ?_
          rw [hq]
          refine ⟨vp_in_nI (by omega) (by decide), ?_⟩
          rw [nI_clamp (by omega)]
          repeat refine hX _ _ _ _ _ _ _ _ _ _ _ _ _ _ rfl ?_
          exact ⟨by rw [hq, nI_1], by rw [hq, nI_1]; rfl⟩
theorem m_who (S : zS) (d : Nat) (hc : List zC) (m : mS) {a : aS} (hA : AWf a) (hR : MRel m a) : Ex S (d + 4) 0 0 137 [.ref 1000] (hc, hM m) (some (.int (nI (spWho a)))) (hc, hM m) := by
  have hnp := hA.1.2.2.2.2.1
  have hns := hA.1.2.2.2.1
  obtain ⟨hq6, hqq⟩ := hA.2.2.2.2.2
  obtain ⟨hq, hsq⟩ := hR.2.2.2.2.2.1
  have hp := hR.1.2.2.1
  have hwr := fun j (hj : j < aNs (sT a)) => m_wronged S d hc m hA.1 hR.1 hA.2.1 hR.2.1 hj
  have hwl := fun j => aWr_lt hA.1 (sN a) j
  have hol := fun k => aWho_lt hA.1 (sN a) (sOf a) (sIs a) k
  (refine exI rfl rfl ?_; intro X hX)
  have loop : ∀ (k i : Nat) (v : Option Value), i + k = sQ a → (v = none ∨ ∃ z, v = some (.int z)) → X 13 [some (.ref 1000), some (.int (nI (aWho (sT a) (sN a) (sOf a) (sIs a) i))), some (.int (nI i)), v] [] (hc, hM m) 0 0 := by
    intro k
    induction k with
    | zero =>
      intro i v hi hv
      repeat refine hX _ _ _ _ _ _ _ _ _ _ _ _ _ _ rfl ?_
      rw [hq]
      refine br_t (show nI (sQ a) ≤ nI i from nI_le (by omega) (by omega)) ?_
      repeat refine hX _ _ _ _ _ _ _ _ _ _ _ _ _ _ rfl ?_
      exact ⟨by rw [show i = sQ a by omega], rfl⟩
    | succ k ih =>
      intro i v hi hv
      obtain ⟨ho2, hi2⟩ := hqq i (by omega)
      have h7 := ih (i + 1) (some (.int (nI (aWr (sT a) (sN a) (sOf a i))))) (by omega) (Or.inr ⟨_, rfl⟩)
      rw [aWho] at h7
      rcases hv with rfl | ⟨z, rfl⟩
      all_goals
        repeat refine hX _ _ _ _ _ _ _ _ _ _ _ _ _ _ rfl ?_
        rw [hq]
        refine br_f (show ¬ nI (sQ a) ≤ nI i from nI_ge (by omega) (by omega)) ?_
        repeat refine hX _ _ _ _ _ _ _ _ _ _ _ _ _ _ rfl ?_
        refine ⟨vp_in_nI (by omega) (by decide), ?_⟩
        rw [nI_clamp (by omega)]
        rw [(hsq i (by omega)).1]
        repeat refine hX _ _ _ _ _ _ _ _ _ _ _ _ _ _ rfl ?_
        refine Or.inl ⟨_, _, hwr _ ho2, ?_⟩
        repeat refine hX _ _ _ _ _ _ _ _ _ _ _ _ _ _ rfl ?_
        refine ⟨vp_in_nI (by omega) (by decide), ?_⟩
        rw [nI_clamp (by omega)]
        rw [(hsq i (by omega)).2]
        repeat refine hX _ _ _ _ _ _ _ _ _ _ _ _ _ _ rfl ?_
        by_cases h1 : sIs a i = 1
        · refine br_f (show ¬ ¬ nI (sIs a i) = 1 from fun h9 => h9 (congrArg nI h1)) ?_
          iterate 6 (refine hX _ _ _ _ _ _ _ _ _ _ _ _ _ _ rfl ?_)
          rw [nI_1, q_and _ (hol i) _ (hwl _)]
          rw [decide_eq_true h1] at h7
          exact h7
        · refine br_t (show ¬ nI (sIs a i) = 1 from fun h9 => h1 ((nI_eq (b := 1) (by omega) (by decide)).mp h9)) ?_
          iterate 7 (refine hX _ _ _ _ _ _ _ _ _ _ _ _ _ _ rfl ?_)
          rw [nI_1, q_andn _ (hol i) _ (hwl _)]
          rw [decide_eq_false h1] at h7
          exact h7
  iterate 5 (refine hX _ _ _ _ _ _ _ _ _ _ _ _ _ _ rfl ?_)
  refine ⟨by unfold vp_in; decide, ?_⟩
  rw [show (2 : Int32).toNatClampNeg = 2 from rfl]
  rw [hp]
  iterate 4 (refine hX _ _ _ _ _ _ _ _ _ _ _ _ _ _ rfl ?_)
  rw [q_people _ hnp]
  iterate 2 (refine hX _ _ _ _ _ _ _ _ _ _ _ _ _ _ rfl ?_)
  exact loop (sQ a) 0 none (by omega) (Or.inl rfl)
theorem m_show (S : zS) (d : Nat) (hc : List zC) (m : mS) {a : aS} (hA : AWf a) (hR : MRel m a) : Ex S (d + 5) 0 0 138 [.ref 1000] (hc, hM m) (some (.int (spShow a))) (hc, hM m) := by
  have hns := hA.1.2.2.2.1
  have h := m_who S d hc m hA hR
  have hn := hR.1.2.1
  have hlt : spWho a < 64 := aWho_lt hA.1 _ _ _ _
  have hbc := fun hh => m_ones S (d + 3) hh hlt
  have hwr := fun j (hj : j < aNs (sT a)) => m_wronged S (d + 1) hc m hA.1 hR.1 hA.2.1 hR.2.1 hj
  have hwl := fun j => aWr_lt hA.1 (sN a) j
  have hbc2 := fun hh j => m_ones S (d + 3) hh (q_and_lt (b := aWr (sT a) (sN a) j) hlt)
  have hpo := pop_le (spWho a)
  unfold spShow
  generalize hset : spWho a = set at *
  by_cases h1 : pop set ≤ 1
  · rw [if_pos h1]
    (refine exI rfl rfl ?_; intro X hX)
    repeat refine hX _ _ _ _ _ _ _ _ _ _ _ _ _ _ rfl ?_
    refine Or.inl ⟨_, _, h, ?_⟩
    repeat refine hX _ _ _ _ _ _ _ _ _ _ _ _ _ _ rfl ?_
    refine ⟨by unfold vp_in; decide, ?_⟩
    rw [show (1 : Int32).toNatClampNeg = 1 from rfl]
    rw [hn]
    repeat refine hX _ _ _ _ _ _ _ _ _ _ _ _ _ _ rfl ?_
    by_cases h0 : aNs (sT a) ≤ 0
    · refine br_t (show nI (aNs (sT a)) ≤ nI 0 from nI_le h0 (by decide)) ?_
      repeat refine hX _ _ _ _ _ _ _ _ _ _ _ _ _ _ rfl ?_
      exact ⟨rfl, rfl⟩
    · refine br_f (show ¬ nI (aNs (sT a)) ≤ nI 0 from nI_ge (by omega) (by omega)) ?_
      repeat refine hX _ _ _ _ _ _ _ _ _ _ _ _ _ _ rfl ?_
      refine Or.inl ⟨_, _, hbc _, ?_⟩
      repeat refine hX _ _ _ _ _ _ _ _ _ _ _ _ _ _ rfl ?_
      refine br_t (show nI (pop set) ≤ nI 1 from nI_le h1 (by decide)) ?_
      repeat refine hX _ _ _ _ _ _ _ _ _ _ _ _ _ _ rfl ?_
      exact ⟨rfl, rfl⟩
  · rw [if_neg h1]
    (refine exI rfl rfl ?_; intro X hX)
    have loop : ∀ (k j : Nat) (v5 v6 v7 : Option Value), j + k = aNs (sT a) → ((v5 = none ∧ v6 = none ∧ v7 = none) ∨ ∃ x y z, v5 = some (.int x) ∧ v6 = some (.int y) ∧ v7 = some (.int z)) → X 14 [some (.ref 1000), some (.int (nI set)), some (.int (aShw (sT a) (sN a) set j).1), some (.int (nI (aShw (sT a) (sN a) set j).2)), some (.int (nI j)), v5, v6, v7] [] (hc, hM m) 0 0 := by
      intro k
      induction k with
      | zero =>
        intro j v5 v6 v7 hj hv
        repeat refine hX _ _ _ _ _ _ _ _ _ _ _ _ _ _ rfl ?_
        refine ⟨by unfold vp_in; decide, ?_⟩
        rw [show (1 : Int32).toNatClampNeg = 1 from rfl]
        rw [hn]
        repeat refine hX _ _ _ _ _ _ _ _ _ _ _ _ _ _ rfl ?_
        refine br_t (show nI (aNs (sT a)) ≤ nI j from nI_le (by omega) (by omega)) ?_
        repeat refine hX _ _ _ _ _ _ _ _ _ _ _ _ _ _ rfl ?_
        exact ⟨by rw [show j = aNs (sT a) by omega], rfl⟩
      | succ k ih =>
        intro j v5 v6 v7 hj hv
        have hpl := pop_le (set &&& aWr (sT a) (sN a) j)
        have hpa := pop_and set hlt _ (hwl j)
        have hsl := aShw_le (sT a) (sN a) set j
        have hap : aPart (sT a) (sN a) set j ≤ 6 := by unfold aPart; omega
        have h7 := ih (j + 1) (some (.int (nI (pop (set &&& aWr (sT a) (sN a) j))))) (some (.int (nI (pop set - pop (set &&& aWr (sT a) (sN a) j))))) (some (.int (nI (aPart (sT a) (sN a) set j)))) (by omega) (Or.inr ⟨_, _, _, rfl, rfl, rfl⟩)
        rw [aShw] at h7
        have h69 : X 69 [some (.ref 1000), some (.int (nI set)), some (.int (aShw (sT a) (sN a) set j).1), some (.int (nI (aShw (sT a) (sN a) set j).2)), some (.int (nI j)), some (.int (nI (pop (set &&& aWr (sT a) (sN a) j)))), some (.int (nI (pop set - pop (set &&& aWr (sT a) (sN a) j)))), v7] [.int (nI (aPart (sT a) (sN a) set j))] (hc, hM m) 0 0 := by
          have hv7 : v7 = none ∨ ∃ z, v7 = some (.int z) := by
            rcases hv with ⟨-, -, h⟩ | ⟨_, _, z, -, -, h⟩
            · exact Or.inl h
            · exact Or.inr ⟨z, h⟩
          rcases hv7 with rfl | ⟨z, rfl⟩
          all_goals
            repeat refine hX _ _ _ _ _ _ _ _ _ _ _ _ _ _ rfl ?_
            by_cases hl : aPart (sT a) (sN a) set j < (aShw (sT a) (sN a) set j).2
            · refine br_f (show ¬ nI (aShw (sT a) (sN a) set j).2 ≤ nI (aPart (sT a) (sN a) set j) from nI_ge hl (by omega)) ?_
              repeat refine hX _ _ _ _ _ _ _ _ _ _ _ _ _ _ rfl ?_
              refine br_f (show ¬ nI (aShw (sT a) (sN a) set j).2 ≤ nI (aPart (sT a) (sN a) set j) from nI_ge hl (by omega)) ?_
              iterate 5 (refine hX _ _ _ _ _ _ _ _ _ _ _ _ _ _ rfl ?_)
              rw [nI_1]
              rw [decide_eq_true hl] at h7
              exact h7
            · refine br_t (show nI (aShw (sT a) (sN a) set j).2 ≤ nI (aPart (sT a) (sN a) set j) from nI_le (by omega) (by omega)) ?_
              repeat refine hX _ _ _ _ _ _ _ _ _ _ _ _ _ _ rfl ?_
              refine br_t (show nI (aShw (sT a) (sN a) set j).2 ≤ nI (aPart (sT a) (sN a) set j) from nI_le (by omega) (by omega)) ?_
              iterate 4 (refine hX _ _ _ _ _ _ _ _ _ _ _ _ _ _ rfl ?_)
              rw [nI_1]
              rw [decide_eq_false hl] at h7
              exact h7
        rcases hv with ⟨rfl, rfl, rfl⟩ | ⟨x, y, z, rfl, rfl, rfl⟩
        all_goals
          repeat refine hX _ _ _ _ _ _ _ _ _ _ _ _ _ _ rfl ?_
          refine ⟨by unfold vp_in; decide, ?_⟩
          rw [show (1 : Int32).toNatClampNeg = 1 from rfl]
          rw [hn]
          repeat refine hX _ _ _ _ _ _ _ _ _ _ _ _ _ _ rfl ?_
          refine br_f (show ¬ nI (aNs (sT a)) ≤ nI j from nI_ge (by omega) (by omega)) ?_
          repeat refine hX _ _ _ _ _ _ _ _ _ _ _ _ _ _ rfl ?_
          refine Or.inl ⟨_, _, hbc _, ?_⟩
          repeat refine hX _ _ _ _ _ _ _ _ _ _ _ _ _ _ rfl ?_
          refine br_f (show ¬ nI (pop set) ≤ nI 1 from nI_ge (by omega) (by omega)) ?_
          repeat refine hX _ _ _ _ _ _ _ _ _ _ _ _ _ _ rfl ?_
          refine Or.inl ⟨_, _, hwr j (by omega), ?_⟩
          iterate 2 (refine hX _ _ _ _ _ _ _ _ _ _ _ _ _ _ rfl ?_)
          rw [q_and _ hlt _ (hwl j)]
          repeat refine hX _ _ _ _ _ _ _ _ _ _ _ _ _ _ rfl ?_
          refine Or.inl ⟨_, _, hbc2 _ j, ?_⟩
          repeat refine hX _ _ _ _ _ _ _ _ _ _ _ _ _ _ rfl ?_
          refine Or.inl ⟨_, _, hbc _, ?_⟩
          iterate 3 (refine hX _ _ _ _ _ _ _ _ _ _ _ _ _ _ rfl ?_)
          rw [pk_sub hpa]
          repeat refine hX _ _ _ _ _ _ _ _ _ _ _ _ _ _ rfl ?_
          by_cases hmx : pop (set &&& aWr (sT a) (sN a) j) ≤ pop set - pop (set &&& aWr (sT a) (sN a) j)
          · refine br_t (show nI (pop (set &&& aWr (sT a) (sN a) j)) ≤ nI (pop set - pop (set &&& aWr (sT a) (sN a) j)) from nI_le hmx (by omega)) ?_
            rw [show aPart (sT a) (sN a) set j = pop set - pop (set &&& aWr (sT a) (sN a) j) from Nat.max_eq_right hmx] at h69
            iterate 1 (refine hX _ _ _ _ _ _ _ _ _ _ _ _ _ _ rfl ?_)
            exact h69
          · refine br_f (show ¬ nI (pop (set &&& aWr (sT a) (sN a) j)) ≤ nI (pop set - pop (set &&& aWr (sT a) (sN a) j)) from nI_ge (by omega) (by omega)) ?_
            rw [show aPart (sT a) (sN a) set j = pop (set &&& aWr (sT a) (sN a) j) from Nat.max_eq_left (by omega)] at h69
            iterate 2 (refine hX _ _ _ _ _ _ _ _ _ _ _ _ _ _ rfl ?_)
            exact h69
    repeat refine hX _ _ _ _ _ _ _ _ _ _ _ _ _ _ rfl ?_
    refine Or.inl ⟨_, _, h, ?_⟩
    iterate 7 (refine hX _ _ _ _ _ _ _ _ _ _ _ _ _ _ rfl ?_)
    exact loop (aNs (sT a)) 0 none none none (by omega) (Or.inl ⟨rfl, rfl, rfl⟩)
/-! kinds -/
theorem m_asStatue (S : zS) (d : Nat) (hc : List zC) (m : mS) {A : aT} (hA : TWf A) (hT : MTold (mTold m) A) {j : Nat} (hj : j < aNs A) : Ex S (d + 1) 0 0 139 [.ref 1000, .int (nI j)] (hc, hM m) (some (.int (nI (aWe A j)))) (hc, hM (s_mTrace m (mTrace m + 1))) := by
  have hns := hA.2.2.2.1
  have h := (hT.2.2.2.2.1 j hj).1
  (refine exI rfl rfl ?_; intro X hX)
  repeat refine hX _ _ _ _ _ _ _ _ _ _ _ _ _ _ rfl ?_
  rw [show (4 : Int32) + nI j = nI (4 + j) from nI_add 4 j]
  refine ⟨vp_in_nI (by omega) (by decide), ?_⟩
  rw [nI_clamp (by omega)]
  rw [h]
  repeat refine hX _ _ _ _ _ _ _ _ _ _ _ _ _ _ rfl ?_
  exact ⟨rfl, rfl⟩
theorem m_asGeneral (S : zS) (d : Nat) (hc : List zC) (m : mS) {A : aT} {N : aN} (hA : TWf A) (hT : MTold (mTold m) A) (hN : MRow A (mNow m) 0 N) {j : Nat} (hj : j < aNs A) : Ex S (d + 2) 0 0 140 [.ref 1000, .int (nI j)] (hc, hM m) (some (.int (nI (aWe A j) + nI (nYa N j)))) (hc, hM (s_mTrace m (mTrace m + 10 + 1))) := by
  have hns := hA.2.2.2.1
  have h := (fun t => m_asStatue S d hc (s_mTrace m t) hA hT hj) (mTrace m + 10)
  have hy := (MRow_0 hN).2.1 j hj
  (refine exI rfl rfl ?_; intro X hX)
  repeat refine hX _ _ _ _ _ _ _ _ _ _ _ _ _ _ rfl ?_
  refine Or.inl ⟨_, _, h, ?_⟩
  repeat refine hX _ _ _ _ _ _ _ _ _ _ _ _ _ _ rfl ?_
  refine ⟨vp_in_nI (by omega) (by decide), ?_⟩
  rw [nI_clamp (by omega)]
  rw [hy]
  repeat refine hX _ _ _ _ _ _ _ _ _ _ _ _ _ _ rfl ?_
  exact ⟨rfl, rfl⟩
theorem m_asPoet (S : zS) (d : Nat) (hc : List zC) (m : mS) {A : aT} {N : aN} (hA : TWf A) (hT : MTold (mTold m) A) (hW : NWf A N) (hN : MRow A (mNow m) 0 N) {j : Nat} (hj : j < aNs A) : Ex S (d + 5) 0 0 141 [.ref 1000, .int (nI j)] (hc, hM m) (some (.int (nI (aWe A j) - nI (aPull A N j)))) (hc, hM (s_mTrace m (mTrace m + 100 + 1))) := by
  have h := (fun t => m_asStatue S (d + 3) hc (s_mTrace m t) hA hT hj) (mTrace m + 100)
  have hp := (fun t => m_pull S d hc (s_mTrace m t) hA hT hW hN hj) (mTrace m + 100 + 1)
  (refine exI rfl rfl ?_; intro X hX)
  repeat refine hX _ _ _ _ _ _ _ _ _ _ _ _ _ _ rfl ?_
  refine Or.inl ⟨_, _, h, ?_⟩
  repeat refine hX _ _ _ _ _ _ _ _ _ _ _ _ _ _ rfl ?_
  refine Or.inl ⟨_, _, hp, ?_⟩
  repeat refine hX _ _ _ _ _ _ _ _ _ _ _ _ _ _ rfl ?_
  exact ⟨rfl, rfl⟩
theorem m_asHorse (S : zS) (d : Nat) (hc : List zC) (m : mS) {A : aT} {N : aN} (hA : TWf A) (hT : MTold (mTold m) A) (hN : MRow A (mNow m) 0 N) {j : Nat} (hj : j < aNs A) : Ex S (d + 3) 0 0 142 [.ref 1000, .int (nI j)] (hc, hM m) (some (.int (2 * (nI (aWe A j) + nI (nYa N j))))) (hc, hM (s_mTrace m (mTrace m + 1000 + 10 + 1))) := by
  have h := (fun t => m_asGeneral S d hc (s_mTrace m t) hA hT hN hj) (mTrace m + 1000)
  (refine exI rfl rfl ?_; intro X hX)
  repeat refine hX _ _ _ _ _ _ _ _ _ _ _ _ _ _ rfl ?_
  refine Or.inl ⟨_, _, h, ?_⟩
  repeat refine hX _ _ _ _ _ _ _ _ _ _ _ _ _ _ rfl ?_
  exact ⟨rfl, rfl⟩
theorem m_asSaint (S : zS) (d : Nat) (hc : List zC) (m : mS) {A : aT} {N : aN} (hA : TWf A) (hT : MTold (mTold m) A) (hW : NWf A N) (hN : MRow A (mNow m) 0 N) {j : Nat} (hj : j < aNs A) : Ex S (d + 6) 0 0 143 [.ref 1000, .int (nI j)] (hc, hM m) (some (.int (nI (aWe A j) - nI (aPull A N j) + nI j))) (hc, hM (s_mTrace m (mTrace m + 10000 + 100 + 1))) := by
  have h := (fun t => m_asPoet S d hc (s_mTrace m t) hA hT hW hN hj) (mTrace m + 10000)
  (refine exI rfl rfl ?_; intro X hX)
  repeat refine hX _ _ _ _ _ _ _ _ _ _ _ _ _ _ rfl ?_
  refine Or.inl ⟨_, _, h, ?_⟩
  repeat refine hX _ _ _ _ _ _ _ _ _ _ _ _ _ _ rfl ?_
  exact ⟨rfl, rfl⟩
theorem m_asGirl (S : zS) (d : Nat) (hc : List zC) (m : mS) {A : aT} {N : aN} (hA : TWf A) (hT : MTold (mTold m) A) (hW : NWf A N) (hN : MRow A (mNow m) 0 N) {j : Nat} (hj : j < aNs A) : Ex S (d + 4) 0 0 144 [.ref 1000, .int (nI j)] (hc, hM m) (some (.int (nI (aWe A j) + nI (pop (aWr A N j))))) (hc, hM (s_mTrace m (mTrace m + 100000 + 1))) := by
  have h := (fun t => m_asStatue S (d + 2) hc (s_mTrace m t) hA hT hj) (mTrace m + 100000)
  have hw := (fun t => m_wronged S d hc (s_mTrace m t) hA hT hW hN hj) (mTrace m + 100000 + 1)
  have hbc := fun hh => m_ones S (d + 2) hh (aWr_lt hA N j)
  (refine exI rfl rfl ?_; intro X hX)
  repeat refine hX _ _ _ _ _ _ _ _ _ _ _ _ _ _ rfl ?_
  refine Or.inl ⟨_, _, h, ?_⟩
  repeat refine hX _ _ _ _ _ _ _ _ _ _ _ _ _ _ rfl ?_
  refine Or.inl ⟨_, _, hw, ?_⟩
  repeat refine hX _ _ _ _ _ _ _ _ _ _ _ _ _ _ rfl ?_
  refine Or.inl ⟨_, _, hbc _, ?_⟩
  repeat refine hX _ _ _ _ _ _ _ _ _ _ _ _ _ _ rfl ?_
  exact ⟨rfl, rfl⟩
theorem m_rate (S : zS) (d : Nat) (hc : List zC) (m : mS) {a : aS} (hA : AWf a) (hR : MRel m a) (k s : Int32) : ∃ m', Ex S (d + 7) 0 0 145 [.ref 1000, .int k, .int s] (hc, hM m) (some (.int (spRate a k s).1)) (hc, hM m') ∧ MRel m' (spRate a k s).2 := by
  have hns := hA.1.2.2.2.1
  have hst := m_isStatue S (d + 4) hc m hA.1 hR.1 s
  have htr := hR.2.2.2.2.2.2
  unfold spRate
  cases hin : inb s (aNs (sT a)) with
  | false =>
    rw [hin] at hst
    rw [Bool.and_false]
    refine ⟨m, ?_, hR⟩
    (refine exI rfl rfl ?_; intro X hX)
    repeat refine hX _ _ _ _ _ _ _ _ _ _ _ _ _ _ rfl ?_
    refine Or.inl ⟨_, _, hst, ?_⟩
    repeat refine hX _ _ _ _ _ _ _ _ _ _ _ _ _ _ rfl ?_
    refine br_f (show ¬ ¬ b2i false = 0 by decide) ?_
    repeat refine hX _ _ _ _ _ _ _ _ _ _ _ _ _ _ rfl ?_
    exact ⟨rfl, rfl⟩
  | true =>
    rw [hin] at hst
    obtain ⟨j, hj, rfl⟩ := inb_of hin (by omega)
    rw [Bool.and_true]
    simp only [nI_clamp (show j < 2 ^ 31 by omega)]
    cases hik : inb k 6 with
    | false =>
      refine ⟨m, ?_, hR⟩
      (refine exI rfl rfl ?_; intro X hX)
      repeat refine hX _ _ _ _ _ _ _ _ _ _ _ _ _ _ rfl ?_
      refine Or.inl ⟨_, _, hst, ?_⟩
      repeat refine hX _ _ _ _ _ _ _ _ _ _ _ _ _ _ rfl ?_
      refine br_t (show ¬ b2i true = 0 by decide) ?_
      repeat refine hX _ _ _ _ _ _ _ _ _ _ _ _ _ _ rfl ?_
      refine ⟨fun hw => ?_, fun h0 => ⟨fun hw => ?_, fun h1 => ⟨fun hw => ?_, fun h2 => ⟨fun hw => ?_, fun h3 => ⟨fun hw => ?_, fun h4 => ⟨fun hw => ?_, fun h5 => ?_⟩⟩⟩⟩⟩⟩
      · rw [hw] at hik; exact absurd hik (by decide)
      · rw [hw] at hik; exact absurd hik (by decide)
      · rw [hw] at hik; exact absurd hik (by decide)
      · rw [hw] at hik; exact absurd hik (by decide)
      · rw [hw] at hik; exact absurd hik (by decide)
      · rw [hw] at hik; exact absurd hik (by decide)
      · repeat refine hX _ _ _ _ _ _ _ _ _ _ _ _ _ _ rfl ?_
        exact ⟨rfl, rfl⟩
    | true =>
      obtain ⟨z, hz, rfl⟩ := inb_of hik (by decide)
      simp only [cond_true]
      have g0 := m_asStatue S (d + 5) hc m hA.1 hR.1 hj
      have g1 := m_asGeneral S (d + 4) hc m hA.1 hR.1 hR.2.1 hj
      have g2 := m_asPoet S (d + 1) hc m hA.1 hR.1 hA.2.1 hR.2.1 hj
      have g3 := m_asHorse S (d + 3) hc m hA.1 hR.1 hR.2.1 hj
      have g4 := m_asSaint S d hc m hA.1 hR.1 hA.2.1 hR.2.1 hj
      have g5 := m_asGirl S (d + 2) hc m hA.1 hR.1 hA.2.1 hR.2.1 hj
      have hrel : ∀ t, MRel (s_mTrace m t) (uTr a t) := fun t => ⟨hR.1, hR.2.1, hR.2.2.1, hR.2.2.2.1, hR.2.2.2.2.1, hR.2.2.2.2.2.1, rfl⟩
      refine ⟨s_mTrace m (aRtr a (nI z)), ?_, hrel _⟩
      rw [htr] at g0 g1 g2 g3 g4 g5
      (refine exI rfl rfl ?_; intro X hX)
      repeat refine hX _ _ _ _ _ _ _ _ _ _ _ _ _ _ rfl ?_
      refine Or.inl ⟨_, _, hst, ?_⟩
      repeat refine hX _ _ _ _ _ _ _ _ _ _ _ _ _ _ rfl ?_
      refine br_t (show ¬ b2i true = 0 by decide) ?_
      repeat refine hX _ _ _ _ _ _ _ _ _ _ _ _ _ _ rfl ?_
      refine ⟨fun hw => ?_, fun h0 => ⟨fun hw => ?_, fun h1 => ⟨fun hw => ?_, fun h2 => ⟨fun hw => ?_, fun h3 => ⟨fun hw => ?_, fun h4 => ⟨fun hw => ?_, fun h5 => ?_⟩⟩⟩⟩⟩⟩
      · repeat refine hX _ _ _ _ _ _ _ _ _ _ _ _ _ _ rfl ?_
        refine Or.inl ⟨_, _, g0, ?_⟩
        repeat refine hX _ _ _ _ _ _ _ _ _ _ _ _ _ _ rfl ?_
        exact ⟨by rw [hw]; rfl, by rw [hw]; rfl⟩
      · repeat refine hX _ _ _ _ _ _ _ _ _ _ _ _ _ _ rfl ?_
        refine Or.inl ⟨_, _, g1, ?_⟩
        repeat refine hX _ _ _ _ _ _ _ _ _ _ _ _ _ _ rfl ?_
        exact ⟨by rw [hw]; rfl, by rw [hw]; rfl⟩
      · repeat refine hX _ _ _ _ _ _ _ _ _ _ _ _ _ _ rfl ?_
        refine Or.inl ⟨_, _, g2, ?_⟩
        repeat refine hX _ _ _ _ _ _ _ _ _ _ _ _ _ _ rfl ?_
        exact ⟨by rw [hw]; rfl, by rw [hw]; rfl⟩
      · repeat refine hX _ _ _ _ _ _ _ _ _ _ _ _ _ _ rfl ?_
        refine Or.inl ⟨_, _, g3, ?_⟩
        repeat refine hX _ _ _ _ _ _ _ _ _ _ _ _ _ _ rfl ?_
        exact ⟨by rw [hw]; rfl, by rw [hw]; rfl⟩
      · repeat refine hX _ _ _ _ _ _ _ _ _ _ _ _ _ _ rfl ?_
        refine Or.inl ⟨_, _, g4, ?_⟩
        repeat refine hX _ _ _ _ _ _ _ _ _ _ _ _ _ _ rfl ?_
        exact ⟨by rw [hw]; rfl, by rw [hw]; rfl⟩
      · repeat refine hX _ _ _ _ _ _ _ _ _ _ _ _ _ _ rfl ?_
        refine Or.inl ⟨_, _, g5, ?_⟩
        repeat refine hX _ _ _ _ _ _ _ _ _ _ _ _ _ _ rfl ?_
        exact ⟨by rw [hw]; rfl, by rw [hw]; rfl⟩
      · exfalso
        have k0 : ¬ z = 0 := fun h => h0 (congrArg nI h)
        have k1 : ¬ z = 1 := fun h => h1 (congrArg nI h)
        have k2 : ¬ z = 2 := fun h => h2 (congrArg nI h)
        have k3 : ¬ z = 3 := fun h => h3 (congrArg nI h)
        have k4 : ¬ z = 4 := fun h => h4 (congrArg nI h)
        have k5 : ¬ z = 5 := fun h => h5 (congrArg nI h)
        omega
