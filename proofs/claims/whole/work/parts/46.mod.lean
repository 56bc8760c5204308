theorem aWr_bit {A : aT} (N : aN) (j : Nat) {p : Nat} (hp : p < aNp A) : (aWr A N j).testBit p = ((aWg A p).testBit (aIn A j) || (nCl N p).testBit j) := by
  unfold aWr
  rw [nmask_bit, decide_eq_true hp, Bool.true_and]
theorem q_pop1 : ∀ a, a < 64 → ∀ p, p < 6 → a.testBit p = false → pop (a ||| 2 ^ p) = pop a + 1 := by decide +kernel
theorem claim_row {A : aT} (hA : TWf A) {N : aN} (hW : NWf A N) {f : cF} (hN : MRow A f 0 N) {p s : Nat} (hp : p < aNp A) (hs : s < aNs A) (hb : (nCl N p).testBit s = false) : MRow A (upd (upd f (7 + p) (f (7 + p) + 1)) (13 + p) (f (13 + p) ||| (1 <<< (nI s &&& 31)))) 0 (nCo N, nYa N, aup (nCl N) p (nCl N p ||| 2 ^ s)) := by
  have hns := hA.2.2.2.1
  have hnp := hA.2.2.2.2.1
  have hN := MRow_0 hN
  refine ⟨?_, fun j hj => ?_, fun q hq => ⟨?_, ?_⟩⟩
  · rw [pk_un (by omega), pk_un (by omega)]; exact hN.1
  · rw [Nat.zero_add, pk_un (by omega), pk_un (by omega)]; exact hN.2.1 j hj
  · show _ = nI (pop (aup (nCl N) p (nCl N p ||| 2 ^ s) q))
    rw [Nat.zero_add]
    by_cases h : q = p
    · subst h
      rw [pk_un (by omega), pk_us, aup_s, (hN.2.2 q hq).1, q_pop1 _ (nCl_lt hA hW hq) s (by omega) hb, nI_1]
    · rw [pk_un (by omega), pk_un (by omega), aup_n _ _ h]; exact (hN.2.2 q hq).1
  · show _ = nI (aup (nCl N) p (nCl N p ||| 2 ^ s) q)
    rw [Nat.zero_add]
    by_cases h : q = p
    · subst h
      rw [pk_us, aup_s, (hN.2.2 q hq).2, q_shl s (by omega), nI_or]
    · rw [pk_un (by omega), pk_un (by omega), aup_n _ _ h]; exact (hN.2.2 q hq).2
theorem m_claims (S : zS) (d : Nat) (hc : List zC) (m : mS) {a : aS} (hA : AWf a) (hR : MRel m a) (x y : Int32) : ∃ m', Ex S (d + 5) 0 0 125 [.ref 1000, .int x, .int y] (hc, hM m) (some (.int (spClaims a x y).1)) (hc, hM m') ∧ MRel m' (spClaims a x y).2 := by
  have hnp := hA.1.2.2.2.2.1
  have hns := hA.1.2.2.2.1
  have hon := m_isOne S (d + 2) hc m hA.1 hR.1 x
  have hst := m_isStatue S (d + 2) hc m hA.1 hR.1 y
  obtain ⟨hk10, -⟩ := hA.2.2.2.1
  obtain ⟨hkn, hH⟩ := hR.2.2.2.1
  have hN := MRow_0 hR.2.1
  unfold spClaims
  cases hin : inb x (aNp (sT a)) with
  | false =>
    rw [hin] at hon
    refine ⟨m, ?_, hR⟩
    (refine exI rfl rfl ?_; intro X hX)
    repeat refine hX _ _ _ _ _ _ _ _ _ _ _ _ _ _ rfl ?_
    refine Or.inl ⟨_, _, hon, ?_⟩
    repeat refine hX _ _ _ _ _ _ _ _ _ _ _ _ _ _ rfl ?_
    refine br_t (show b2i false = 0 from rfl) ?_
    repeat refine hX _ _ _ _ _ _ _ _ _ _ _ _ _ _ rfl ?_
    exact ⟨rfl, rfl⟩
  | true =>
    rw [hin] at hon
    obtain ⟨p, hp, rfl⟩ := inb_of hin (by omega)
    cases hiy : inb y (aNs (sT a)) with
    | false =>
      rw [hiy] at hst
      refine ⟨m, ?_, hR⟩
      (refine exI rfl rfl ?_; intro X hX)
      repeat refine hX _ _ _ _ _ _ _ _ _ _ _ _ _ _ rfl ?_
      refine Or.inl ⟨_, _, hon, ?_⟩
      repeat refine hX _ _ _ _ _ _ _ _ _ _ _ _ _ _ rfl ?_
      refine br_f (show ¬ b2i true = 0 by decide) ?_
      repeat refine hX _ _ _ _ _ _ _ _ _ _ _ _ _ _ rfl ?_
      refine Or.inl ⟨_, _, hst, ?_⟩
      repeat refine hX _ _ _ _ _ _ _ _ _ _ _ _ _ _ rfl ?_
      refine br_f (show ¬ ¬ b2i false = 0 by decide) ?_
      repeat refine hX _ _ _ _ _ _ _ _ _ _ _ _ _ _ rfl ?_
      exact ⟨rfl, rfl⟩
    | true =>
      rw [hiy] at hst
      obtain ⟨s, hs, rfl⟩ := inb_of hiy (by omega)
      simp only [cond_true, Bool.and_self, nI_clamp (show p < 2 ^ 31 by omega), nI_clamp (show s < 2 ^ 31 by omega)]
      have hwr := m_isWronged S (d + 2) hc m hA.1 hR.1 hA.2.1 hR.2.1 hp hs
      rw [← aWr_bit (sN a) s hp] at hwr
      cases hb : (aWr (sT a) (sN a) s).testBit p with
      | true =>
        rw [hb] at hwr
        refine ⟨m, ?_, hR⟩
        (refine exI rfl rfl ?_; intro X hX)
        repeat refine hX _ _ _ _ _ _ _ _ _ _ _ _ _ _ rfl ?_
        refine Or.inl ⟨_, _, hon, ?_⟩
        repeat refine hX _ _ _ _ _ _ _ _ _ _ _ _ _ _ rfl ?_
        refine br_f (show ¬ b2i true = 0 by decide) ?_
        repeat refine hX _ _ _ _ _ _ _ _ _ _ _ _ _ _ rfl ?_
        refine Or.inl ⟨_, _, hst, ?_⟩
        repeat refine hX _ _ _ _ _ _ _ _ _ _ _ _ _ _ rfl ?_
        refine br_t (show ¬ b2i true = 0 by decide) ?_
        repeat refine hX _ _ _ _ _ _ _ _ _ _ _ _ _ _ rfl ?_
        refine Or.inl ⟨_, _, hwr, ?_⟩
        repeat refine hX _ _ _ _ _ _ _ _ _ _ _ _ _ _ rfl ?_
        refine br_f (show ¬ b2i true = 0 by decide) ?_
        repeat refine hX _ _ _ _ _ _ _ _ _ _ _ _ _ _ rfl ?_
        exact ⟨rfl, rfl⟩
      | false =>
        rw [hb] at hwr
        have g1 := (hN.2.2 p hp).1
        have g2 := (hR.1.2.2.2.2.2 p hp).2.2.1
        have h3 := (hA.1.2.2.2.2.2.2 p hp).2.2.2.1
        have h4 := pop_le (nCl (sN a) p)
        simp only [cond_false]
        by_cases hcr : aCr (sT a) p ≤ pop (nCl (sN a) p)
        · rw [if_pos hcr]
          refine ⟨m, ?_, hR⟩
          (refine exI rfl rfl ?_; intro X hX)
          repeat refine hX _ _ _ _ _ _ _ _ _ _ _ _ _ _ rfl ?_
          refine Or.inl ⟨_, _, hon, ?_⟩
          repeat refine hX _ _ _ _ _ _ _ _ _ _ _ _ _ _ rfl ?_
          refine br_f (show ¬ b2i true = 0 by decide) ?_
          repeat refine hX _ _ _ _ _ _ _ _ _ _ _ _ _ _ rfl ?_
          refine Or.inl ⟨_, _, hst, ?_⟩
          repeat refine hX _ _ _ _ _ _ _ _ _ _ _ _ _ _ rfl ?_
          refine br_t (show ¬ b2i true = 0 by decide) ?_
          repeat refine hX _ _ _ _ _ _ _ _ _ _ _ _ _ _ rfl ?_
          refine Or.inl ⟨_, _, hwr, ?_⟩
          repeat refine hX _ _ _ _ _ _ _ _ _ _ _ _ _ _ rfl ?_
          refine br_t (show b2i false = 0 from rfl) ?_
          repeat refine hX _ _ _ _ _ _ _ _ _ _ _ _ _ _ rfl ?_
          rw [show (7 : Int32) + nI p = nI (7 + p) from nI_add 7 p]
          refine ⟨vp_in_nI (by omega) (by decide), ?_⟩
          rw [nI_clamp (by omega)]
          rw [g1]
          repeat refine hX _ _ _ _ _ _ _ _ _ _ _ _ _ _ rfl ?_
          rw [show (28 : Int32) + nI p = nI (28 + p) from nI_add 28 p]
          refine ⟨vp_in_nI (by omega) (by decide), ?_⟩
          rw [nI_clamp (by omega)]
          rw [g2]
          repeat refine hX _ _ _ _ _ _ _ _ _ _ _ _ _ _ rfl ?_
          refine br_f (show ¬ nI (pop (nCl (sN a) p)) < nI (aCr (sT a) p) from nI_nlt hcr (by omega)) ?_
          repeat refine hX _ _ _ _ _ _ _ _ _ _ _ _ _ _ rfl ?_
          exact ⟨rfl, rfl⟩
        · rw [if_neg hcr]
          have hbl : (nCl (sN a) p).testBit s = false := by
            have := aWr_bit (sN a) s hp
            rw [hb] at this
            cases h : (nCl (sN a) p).testBit s with
            | false => rfl
            | true => rw [h, Bool.or_true] at this; cases this
          have hrow := claim_row hA.1 hA.2.1 hR.2.1 hp hs hbl
          have hwf := claim_wf hA.2.1 (p := p) hs
          have hno := m_note S (d + 3) hc m hkn hk10
          have hpu := m_pull S d hc (s_mNow (s_mUndo (s_mBefore m (nB (mBefore m) (mNow m) (sK a))) (nI (hPk (sK a)))) (upd (upd (mNow m) (7 + p) (mNow m (7 + p) + 1)) (13 + p) (mNow m (13 + p) ||| (1 <<< (nI s &&& 31))))) hA.1 hR.1 hwf hrow hs
          refine ⟨s_mNow (s_mUndo (s_mBefore m (nB (mBefore m) (mNow m) (sK a))) (nI (hPk (sK a)))) (upd (upd (mNow m) (7 + p) (mNow m (7 + p) + 1)) (13 + p) (mNow m (13 + p) ||| (1 <<< (nI s &&& 31)))), ?_, ⟨hR.1, hrow, hR.2.2.1, ⟨rfl, note_rel hA.1 hk10 hR.2.1 hH⟩, hR.2.2.2.2.1, hR.2.2.2.2.2.1, hR.2.2.2.2.2.2⟩⟩
          (refine exI rfl rfl ?_; intro X hX)
          repeat refine hX _ _ _ _ _ _ _ _ _ _ _ _ _ _ rfl ?_
          refine Or.inl ⟨_, _, hon, ?_⟩
          repeat refine hX _ _ _ _ _ _ _ _ _ _ _ _ _ _ rfl ?_
          refine br_f (show ¬ b2i true = 0 by decide) ?_
          repeat refine hX _ _ _ _ _ _ _ _ _ _ _ _ _ _ rfl ?_
          refine Or.inl ⟨_, _, hst, ?_⟩
          repeat refine hX _ _ _ _ _ _ _ _ _ _ _ _ _ _ rfl ?_
          refine br_t (show ¬ b2i true = 0 by decide) ?_
          repeat refine hX _ _ _ _ _ _ _ _ _ _ _ _ _ _ rfl ?_
          refine Or.inl ⟨_, _, hwr, ?_⟩
          repeat refine hX _ _ _ _ _ _ _ _ _ _ _ _ _ _ rfl ?_
          refine br_t (show b2i false = 0 from rfl) ?_
          repeat refine hX _ _ _ _ _ _ _ _ _ _ _ _ _ _ rfl ?_
          rw [show (7 : Int32) + nI p = nI (7 + p) from nI_add 7 p]
          refine ⟨vp_in_nI (by omega) (by decide), ?_⟩
          rw [nI_clamp (by omega)]
          rw [g1]
          repeat refine hX _ _ _ _ _ _ _ _ _ _ _ _ _ _ rfl ?_
          rw [show (28 : Int32) + nI p = nI (28 + p) from nI_add 28 p]
          refine ⟨vp_in_nI (by omega) (by decide), ?_⟩
          rw [nI_clamp (by omega)]
          rw [g2]
          repeat refine hX _ _ _ _ _ _ _ _ _ _ _ _ _ _ rfl ?_
          refine br_t (show nI (pop (nCl (sN a) p)) < nI (aCr (sT a) p) from nI_lt (by omega) (by omega)) ?_
          repeat refine hX _ _ _ _ _ _ _ _ _ _ _ _ _ _ rfl ?_
          refine Or.inl ⟨_, _, hno, ?_⟩
          repeat refine hX _ _ _ _ _ _ _ _ _ _ _ _ _ _ rfl ?_
          rw [show (7 : Int32) + nI p = nI (7 + p) from nI_add 7 p]
          refine ⟨vp_in_nI (by omega) (by decide), ?_⟩
          rw [nI_clamp (by omega)]
          repeat refine hX _ _ _ _ _ _ _ _ _ _ _ _ _ _ rfl ?_
          refine ⟨vp_in_nI (by omega) (by decide), ?_⟩
          rw [nI_clamp (by omega)]
          repeat refine hX _ _ _ _ _ _ _ _ _ _ _ _ _ _ rfl ?_
          rw [show (13 : Int32) + nI p = nI (13 + p) from nI_add 13 p]
          refine ⟨vp_in_nI (by omega) (by decide), ?_⟩
          rw [nI_clamp (by omega)]
          rw [pk_un (by omega)]
          repeat refine hX _ _ _ _ _ _ _ _ _ _ _ _ _ _ rfl ?_
          refine ⟨vp_in_nI (by omega) (by decide), ?_⟩
          rw [nI_clamp (by omega)]
          repeat refine hX _ _ _ _ _ _ _ _ _ _ _ _ _ _ rfl ?_
          refine Or.inl ⟨_, _, hpu, ?_⟩
          repeat refine hX _ _ _ _ _ _ _ _ _ _ _ _ _ _ rfl ?_
          exact ⟨rfl, rfl⟩
theorem aTo_1 (a : aS) (s : Nat) : nI (nYa (sN a) s) + 1 = aTo a s (nI 1) := by unfold aTo aStep; rw [if_pos (show nI 1 = 1 from rfl)]
theorem aTo_0 (a : aS) (s : Nat) : nI (nYa (sN a) s) - 1 = aTo a s (nI 0) := by unfold aTo aStep; rw [if_neg (by decide), Int32.sub_eq_add_neg]
theorem m_pulls (S : zS) (d : Nat) (hc : List zC) (m : mS) {a : aS} (hA : AWf a) (hR : MRel m a) (x y : Int32) : ∃ m', Ex S (d + 6) 0 0 126 [.ref 1000, .int x, .int y] (hc, hM m) (some (.int (spPulls a x y).1)) (hc, hM m') ∧ MRel m' (spPulls a x y).2 := by
  have hny := hA.1.2.1
  have hns := hA.1.2.2.2.1
  have hst := m_isStatue S (d + 3) hc m hA.1 hR.1 x
  have hin64 := fun h => m_in S (d + 4) h y.toInt64 0 (lN 1)
  rw [in64c y (by decide)] at hin64
  obtain ⟨hk10, -⟩ := hA.2.2.2.1
  obtain ⟨hkn, hH⟩ := hR.2.2.2.1
  have hN := MRow_0 hR.2.1
  unfold spPulls
  cases hin : inb x (aNs (sT a)) with
  | false =>
    rw [hin] at hst
    refine ⟨m, ?_, hR⟩
    (refine exI rfl rfl ?_; intro X hX)
    repeat refine hX _ _ _ _ _ _ _ _ _ _ _ _ _ _ rfl ?_
    refine Or.inl ⟨_, _, hst, ?_⟩
    repeat refine hX _ _ _ _ _ _ _ _ _ _ _ _ _ _ rfl ?_
    refine br_t (show b2i false = 0 from rfl) ?_
    repeat refine hX _ _ _ _ _ _ _ _ _ _ _ _ _ _ rfl ?_
    exact ⟨rfl, rfl⟩
  | true =>
    rw [hin] at hst
    obtain ⟨s, hs, rfl⟩ := inb_of hin (by omega)
    cases hiy : inb y 2 with
    | false =>
      rw [hiy] at hin64
      refine ⟨m, ?_, hR⟩
      (refine exI rfl rfl ?_; intro X hX)
      repeat refine hX _ _ _ _ _ _ _ _ _ _ _ _ _ _ rfl ?_
      refine Or.inl ⟨_, _, hst, ?_⟩
      repeat refine hX _ _ _ _ _ _ _ _ _ _ _ _ _ _ rfl ?_
      refine br_f (show ¬ b2i true = 0 by decide) ?_
      repeat refine hX _ _ _ _ _ _ _ _ _ _ _ _ _ _ rfl ?_
      refine Or.inl ⟨_, _, hin64 _, ?_⟩
      repeat refine hX _ _ _ _ _ _ _ _ _ _ _ _ _ _ rfl ?_
      refine br_f (show ¬ ¬ b2i false = 0 by decide) ?_
      repeat refine hX _ _ _ _ _ _ _ _ _ _ _ _ _ _ rfl ?_
      exact ⟨rfl, rfl⟩
    | true =>
      rw [hiy] at hin64
      obtain ⟨z, hz, rfl⟩ := inb_of hiy (by decide)
      simp only [cond_true, Bool.and_self, nI_clamp (show s < 2 ^ 31 by omega)]
      have hmo := m_moves S d hc m hA.1 hR.1 hA.2.1 hR.2.1 hs
      have hya := m_isYard S (d + 3) hc m hA.1 hR.1 (aTo a s (nI z))
      have hsi := m_statueIn S (d + 4) hc m hA.1 hR.1 hA.2.1 hR.2.1 (aTo a s (nI z))
      have hno := m_note S (d + 4) hc m hkn hk10
      have hyf := hN.2.1 s hs
      have key : ∀ m', (∀ X, z_cl S (Ex S (d + 5)) tX5_pulls false 0 0 (fun v' g' => v' = some (.int (bif aMov (sT a) (sN a) s && (inb (aTo a s (nI z)) (aNy (sT a)) && decide (aSin (sT a) (sN a) (aTo a s (nI z)) = -9)) then (aTo a s (nI z), uDo a (nCo (sN a), aup (nYa (sN a)) s (aTo a s (nI z)).toNatClampNeg, nCl (sN a))) else (-2, a)).1) ∧ g' = (hc, hM m')) X → X 44 [some (.ref 1000), some (.int (nI s)), some (.int (nI z)), some (.int (aTo a s (nI z)))] [] (hc, hM m) 0 0) → Ex S (d + 6) 0 0 126 [.ref 1000, .int (nI s), .int (nI z)] (hc, hM m) (some (.int (bif aMov (sT a) (sN a) s && (inb (aTo a s (nI z)) (aNy (sT a)) && decide (aSin (sT a) (sN a) (aTo a s (nI z)) = -9)) then (aTo a s (nI z), uDo a (nCo (sN a), aup (nYa (sN a)) s (aTo a s (nI z)).toNatClampNeg, nCl (sN a))) else (-2, a)).1)) (hc, hM m') := by
        intro m' h44
        (refine exI rfl rfl ?_; intro X hX)
        have h44 := h44 X hX
        repeat refine hX _ _ _ _ _ _ _ _ _ _ _ _ _ _ rfl ?_
        refine Or.inl ⟨_, _, hst, ?_⟩
        repeat refine hX _ _ _ _ _ _ _ _ _ _ _ _ _ _ rfl ?_
        refine br_f (show ¬ b2i true = 0 by decide) ?_
        repeat refine hX _ _ _ _ _ _ _ _ _ _ _ _ _ _ rfl ?_
        refine Or.inl ⟨_, _, hin64 _, ?_⟩
        repeat refine hX _ _ _ _ _ _ _ _ _ _ _ _ _ _ rfl ?_
        refine br_t (show ¬ b2i true = 0 by decide) ?_
        repeat refine hX _ _ _ _ _ _ _ _ _ _ _ _ _ _ rfl ?_
        by_cases hz0 : z = 0
        · subst hz0
          refine br_f (show ¬ ¬ nI 0 = 0 by decide) ?_
          repeat refine hX _ _ _ _ _ _ _ _ _ _ _ _ _ _ rfl ?_
          refine ⟨vp_in_nI (by omega) (by decide), ?_⟩
          rw [nI_clamp (by omega)]
          rw [hyf]
          iterate 4 (refine hX _ _ _ _ _ _ _ _ _ _ _ _ _ _ rfl ?_)
          rw [aTo_0]
          exact h44
        · have : z = 1 := by omega
          subst this
          refine br_t (show ¬ nI 1 = 0 by decide) ?_
          repeat refine hX _ _ _ _ _ _ _ _ _ _ _ _ _ _ rfl ?_
          refine ⟨vp_in_nI (by omega) (by decide), ?_⟩
          rw [nI_clamp (by omega)]
          rw [hyf]
          iterate 3 (refine hX _ _ _ _ _ _ _ _ _ _ _ _ _ _ rfl ?_)
          rw [aTo_1]
          exact h44
      cases hmv : aMov (sT a) (sN a) s with
      | false =>
        rw [hmv] at hmo key
        refine ⟨m, key m ?_, hR⟩
        intro X hX
        repeat refine hX _ _ _ _ _ _ _ _ _ _ _ _ _ _ rfl ?_
        refine Or.inl ⟨_, _, hmo, ?_⟩
        repeat refine hX _ _ _ _ _ _ _ _ _ _ _ _ _ _ rfl ?_
        refine br_t (show b2i false = 0 from rfl) ?_
        repeat refine hX _ _ _ _ _ _ _ _ _ _ _ _ _ _ rfl ?_
        exact ⟨rfl, rfl⟩
      | true =>
        rw [hmv] at hmo key
        cases hit : inb (aTo a s (nI z)) (aNy (sT a)) with
        | false =>
          rw [hit] at hya key
          refine ⟨m, key m ?_, hR⟩
          intro X hX
          repeat refine hX _ _ _ _ _ _ _ _ _ _ _ _ _ _ rfl ?_
          refine Or.inl ⟨_, _, hmo, ?_⟩
          repeat refine hX _ _ _ _ _ _ _ _ _ _ _ _ _ _ rfl ?_
          refine br_f (show ¬ b2i true = 0 by decide) ?_
          repeat refine hX _ _ _ _ _ _ _ _ _ _ _ _ _ _ rfl ?_
          refine Or.inl ⟨_, _, hya, ?_⟩
          repeat refine hX _ _ _ _ _ _ _ _ _ _ _ _ _ _ rfl ?_
          refine br_t (show b2i false = 0 from rfl) ?_
          repeat refine hX _ _ _ _ _ _ _ _ _ _ _ _ _ _ rfl ?_
          exact ⟨rfl, rfl⟩
        | true =>
          rw [hit] at hya key
          by_cases h9 : aSin (sT a) (sN a) (aTo a s (nI z)) = -9
          · rw [decide_eq_true h9] at key ⊢
            obtain ⟨t, ht, hto⟩ := inb_of hit (by omega)
            refine ⟨s_mNow (s_mUndo (s_mBefore m (nB (mBefore m) (mNow m) (sK a))) (nI (hPk (sK a)))) (upd (mNow m) s (aTo a s (nI z))), key _ ?_, ⟨hR.1, ?_, hR.2.2.1, ⟨rfl, note_rel hA.1 hk10 hR.2.1 hH⟩, hR.2.2.2.2.1, hR.2.2.2.2.2.1, hR.2.2.2.2.2.2⟩⟩
            · intro X hX
              repeat refine hX _ _ _ _ _ _ _ _ _ _ _ _ _ _ rfl ?_
              refine Or.inl ⟨_, _, hmo, ?_⟩
              repeat refine hX _ _ _ _ _ _ _ _ _ _ _ _ _ _ rfl ?_
              refine br_f (show ¬ b2i true = 0 by decide) ?_
              repeat refine hX _ _ _ _ _ _ _ _ _ _ _ _ _ _ rfl ?_
              refine Or.inl ⟨_, _, hya, ?_⟩
              repeat refine hX _ _ _ _ _ _ _ _ _ _ _ _ _ _ rfl ?_
              refine br_f (show ¬ b2i true = 0 by decide) ?_
              repeat refine hX _ _ _ _ _ _ _ _ _ _ _ _ _ _ rfl ?_
              refine Or.inl ⟨_, _, hsi, ?_⟩
              repeat refine hX _ _ _ _ _ _ _ _ _ _ _ _ _ _ rfl ?_
              refine br_t (show aSin (sT a) (sN a) (aTo a s (nI z)) = -9 from h9) ?_
              repeat refine hX _ _ _ _ _ _ _ _ _ _ _ _ _ _ rfl ?_
              refine Or.inl ⟨_, _, hno, ?_⟩
              repeat refine hX _ _ _ _ _ _ _ _ _ _ _ _ _ _ rfl ?_
              refine ⟨vp_in_nI (by omega) (by decide), ?_⟩
              rw [nI_clamp (by omega)]
              repeat refine hX _ _ _ _ _ _ _ _ _ _ _ _ _ _ rfl ?_
              exact ⟨rfl, rfl⟩
            · refine ⟨?_, fun j hj => ?_, fun p hp => ⟨?_, ?_⟩⟩
              · show upd (mNow m) s _ 6 = _
                rw [pk_un (by omega)]; exact hN.1
              · show upd (mNow m) s (aTo a s (nI z)) (0 + j) = nI (aup (nYa (sN a)) s (aTo a s (nI z)).toNatClampNeg j)
                rw [hto, nI_clamp (by omega), Nat.zero_add]
                by_cases h : j = s
                · rw [h, pk_us, aup_s]
                · rw [pk_un h, aup_n _ _ h]; exact hN.2.1 j hj
              · show upd (mNow m) s _ (0 + 7 + p) = _
                rw [pk_un (by omega)]; exact (hR.2.1.2.2 p hp).1
              · show upd (mNow m) s _ (0 + 13 + p) = _
                rw [pk_un (by omega)]; exact (hR.2.1.2.2 p hp).2
          · rw [decide_eq_false h9] at key ⊢
            refine ⟨m, key m ?_, hR⟩
            intro X hX
            repeat refine hX _ _ _ _ _ _ _ _ _ _ _ _ _ _ rfl ?_
            refine Or.inl ⟨_, _, hmo, ?_⟩
            repeat refine hX _ _ _ _ _ _ _ _ _ _ _ _ _ _ rfl ?_
            refine br_f (show ¬ b2i true = 0 by decide) ?_
            repeat refine hX _ _ _ _ _ _ _ _ _ _ _ _ _ _ rfl ?_
            refine Or.inl ⟨_, _, hya, ?_⟩
            repeat refine hX _ _ _ _ _ _ _ _ _ _ _ _ _ _ rfl ?_
            refine br_f (show ¬ b2i true = 0 by decide) ?_
            repeat refine hX _ _ _ _ _ _ _ _ _ _ _ _ _ _ rfl ?_
            refine Or.inl ⟨_, _, hsi, ?_⟩
            repeat refine hX _ _ _ _ _ _ _ _ _ _ _ _ _ _ rfl ?_
            refine br_f (show ¬ aSin (sT a) (sN a) (aTo a s (nI z)) = -9 from h9) ?_
            repeat refine hX _ _ _ _ _ _ _ _ _ _ _ _ _ _ rfl ?_
            exact ⟨rfl, rfl⟩
