/-! ===== the reference: what is read ===== -/
theorem lg_lt (x y : Int64) : lg_cmp x y < 0 ↔ x < y := by
  unfold lg_cmp
  by_cases h1 : x > y
  · rw [if_pos h1]
    have : ¬ x < y := fun h => Int64.lt_irrefl (Int64.lt_trans h h1)
    simp [this]
  · rw [if_neg h1]
    by_cases h2 : x = y
    · rw [if_pos h2, h2]
      simp [Int64.lt_irrefl]
    · rw [if_neg h2]
      have : x < y := by
        rcases Int64.lt_or_le x y with h | h
        · exact h
        · exact absurd (Int64.le_antisymm (Int64.not_lt.mp h1) h) h2
      simp [this]
theorem lg_gt (x y : Int64) : 0 < lg_cmp x y ↔ y < x := by
  unfold lg_cmp
  by_cases h1 : x > y
  · rw [if_pos h1]
    simp [show y < x from h1]
  · rw [if_neg h1]
    have h3 : ¬ y < x := h1
    by_cases h2 : x = y
    · rw [if_pos h2]; simp [h3]
    · rw [if_neg h2]; simp [h3]
theorem m_in (S : zS) (d : Nat) (h : zH) (x lo hi : Int64) : Ex S (d + 1) 0 0 91 [.long x, .long lo, .long hi] h (some (.int (b2i (decide (lo ≤ x) && decide (x ≤ hi))))) h := by
  (refine exI rfl rfl ?_; intro X hX)
  repeat refine hX _ _ _ _ _ _ _ _ _ _ _ _ _ _ rfl ?_
  by_cases h1 : x < lo
  · refine br_t (show lg_cmp x lo < 0 from (lg_lt x lo).mpr h1) ?_
    repeat refine hX _ _ _ _ _ _ _ _ _ _ _ _ _ _ rfl ?_
    exact ⟨Or.inl rfl, by rw [decide_eq_false (Int64.not_le.mpr h1)]; rfl, rfl⟩
  · refine br_f (show ¬ lg_cmp x lo < 0 from fun h => h1 ((lg_lt x lo).mp h)) ?_
    repeat refine hX _ _ _ _ _ _ _ _ _ _ _ _ _ _ rfl ?_
    by_cases h2 : hi < x
    · refine br_t (show 0 < lg_cmp x hi from (lg_gt x hi).mpr h2) ?_
      repeat refine hX _ _ _ _ _ _ _ _ _ _ _ _ _ _ rfl ?_
      exact ⟨Or.inl rfl, by rw [decide_eq_true (Int64.not_lt.mp h1), decide_eq_false (Int64.not_le.mpr h2)]; rfl, rfl⟩
    · refine br_f (show ¬ 0 < lg_cmp x hi from fun h => h2 ((lg_gt x hi).mp h)) ?_
      repeat refine hX _ _ _ _ _ _ _ _ _ _ _ _ _ _ rfl ?_
      exact ⟨Or.inr rfl, by rw [decide_eq_true (Int64.not_lt.mp h1), decide_eq_true (Int64.not_lt.mp h2)]; rfl, rfl⟩
theorem in64 (x : Int32) {n : Nat} (hn : n < 2 ^ 30) : (decide ((0 : Int64) ≤ x.toInt64) && decide (x.toInt64 ≤ (nI n - 1).toInt64)) = inb x n := by
  have e1 : (nI n - 1).toInt = (n : Int) - 1 := pk_sub_toInt (b := 1) hn (by decide)
  have e2 : (nI n).toInt = n := nI_toInt (by omega)
  unfold inb
  simp only [Int64.le_iff_toInt_le, Int32.lt_iff_toInt_lt, Int32.toInt_toInt64, e1, e2]
  have e3 : (0 : Int64).toInt = 0 := rfl
  have e4 : (0 : Int32).toInt = 0 := rfl
  rw [e3, e4, ← decide_not]
  congr 1 <;> exact decide_eq_decide.mpr (by omega)
theorem in64c (x : Int32) {k : Nat} (hk : k < 2 ^ 30) : (decide ((0 : Int64) ≤ x.toInt64) && decide (x.toInt64 ≤ lN k)) = inb x (k + 1) := by
  have e1 : (lN k).toInt = (k : Int) := lN_toInt (by omega)
  have e2 : (nI (k + 1)).toInt = ((k + 1 : Nat) : Int) := nI_toInt (by omega)
  unfold inb
  simp only [Int64.le_iff_toInt_le, Int32.lt_iff_toInt_lt, Int32.toInt_toInt64, e1, e2]
  have e3 : (0 : Int64).toInt = 0 := rfl
  have e4 : (0 : Int32).toInt = 0 := rfl
  rw [e3, e4, ← decide_not]
  congr 1 <;> exact decide_eq_decide.mpr (by omega)
theorem m_has (S : zS) (d : Nat) (h : zH) (set i : Int32) : Ex S (d + 1) 0 0 92 [.int set, .int i] h (some (.int (b2i (zhas set i)))) h := by
  (refine exI rfl rfl ?_; intro X hX)
  repeat refine hX _ _ _ _ _ _ _ _ _ _ _ _ _ _ rfl ?_
  refine ⟨fun hc => ?_, fun hc => ?_⟩
  · have hc : ¬ (set >>> (i &&& 31)) &&& 1 = 1 := hc
    repeat refine hX _ _ _ _ _ _ _ _ _ _ _ _ _ _ rfl ?_
    exact ⟨Or.inl rfl, by rw [zhas_f hc]; rfl, rfl⟩
  · have hc : ¬ ¬ (set >>> (i &&& 31)) &&& 1 = 1 := hc
    repeat refine hX _ _ _ _ _ _ _ _ _ _ _ _ _ _ rfl ?_
    exact ⟨Or.inr rfl, by rw [zhas_t (Classical.not_not.mp hc)]; rfl, rfl⟩
theorem m_hasX (S : zS) (d : Nat) (h : zH) {a p : Nat} (ha : a < 64) (hp : p < 6) : Ex S (d + 1) 0 0 92 [.int (nI a), .int (nI p)] h (some (.int (b2i (a.testBit p)))) h := by
  have := m_has S d h (nI a) (nI p)
  rwa [q_has a ha p hp] at this
theorem m_isStatue (S : zS) (d : Nat) (hc : List zC) (m : mS) {A : aT} (hA : TWf A) (hT : MTold (mTold m) A) (x : Int32) : Ex S (d + 2) 0 0 108 [.ref 1000, .int x] (hc, hM m) (some (.int (b2i (inb x (aNs A))))) (hc, hM m) := by
  have hns := hA.2.2.2.1
  have hin := fun h => m_in S d h x.toInt64 0 (nI (aNs A) - 1).toInt64
  rw [in64 x (by omega)] at hin
  (refine exI rfl rfl ?_; intro X hX)
  repeat refine hX _ _ _ _ _ _ _ _ _ _ _ _ _ _ rfl ?_
  refine ⟨by unfold vp_in; decide, ?_⟩
  rw [show (1 : Int32).toNatClampNeg = 1 from rfl]
  rw [hT.2.1]
  repeat refine hX _ _ _ _ _ _ _ _ _ _ _ _ _ _ rfl ?_
  refine Or.inl ⟨_, _, hin _, ?_⟩
  repeat refine hX _ _ _ _ _ _ _ _ _ _ _ _ _ _ rfl ?_
  exact ⟨b2i_01 _, rfl, rfl⟩
theorem m_isOne (S : zS) (d : Nat) (hc : List zC) (m : mS) {A : aT} (hA : TWf A) (hT : MTold (mTold m) A) (x : Int32) : Ex S (d + 2) 0 0 109 [.ref 1000, .int x] (hc, hM m) (some (.int (b2i (inb x (aNp A))))) (hc, hM m) := by
  have hnp := hA.2.2.2.2.1
  have hin := fun h => m_in S d h x.toInt64 0 (nI (aNp A) - 1).toInt64
  rw [in64 x (by omega)] at hin
  (refine exI rfl rfl ?_; intro X hX)
  repeat refine hX _ _ _ _ _ _ _ _ _ _ _ _ _ _ rfl ?_
  refine ⟨by unfold vp_in; decide, ?_⟩
  rw [show (2 : Int32).toNatClampNeg = 2 from rfl]
  rw [hT.2.2.1]
  repeat refine hX _ _ _ _ _ _ _ _ _ _ _ _ _ _ rfl ?_
  refine Or.inl ⟨_, _, hin _, ?_⟩
  repeat refine hX _ _ _ _ _ _ _ _ _ _ _ _ _ _ rfl ?_
  exact ⟨b2i_01 _, rfl, rfl⟩
theorem m_isYard (S : zS) (d : Nat) (hc : List zC) (m : mS) {A : aT} (hA : TWf A) (hT : MTold (mTold m) A) (x : Int32) : Ex S (d + 2) 0 0 110 [.ref 1000, .int x] (hc, hM m) (some (.int (b2i (inb x (aNy A))))) (hc, hM m) := by
  have hny := hA.2.1
  have hin := fun h => m_in S d h x.toInt64 0 (nI (aNy A) - 1).toInt64
  rw [in64 x (by omega)] at hin
  (refine exI rfl rfl ?_; intro X hX)
  repeat refine hX _ _ _ _ _ _ _ _ _ _ _ _ _ _ rfl ?_
  refine ⟨by unfold vp_in; decide, ?_⟩
  rw [show (0 : Int32).toNatClampNeg = 0 from rfl]
  rw [hT.1]
  repeat refine hX _ _ _ _ _ _ _ _ _ _ _ _ _ _ rfl ?_
  refine Or.inl ⟨_, _, hin _, ?_⟩
  repeat refine hX _ _ _ _ _ _ _ _ _ _ _ _ _ _ rfl ?_
  exact ⟨b2i_01 _, rfl, rfl⟩
theorem MRow_0 {A : aT} {f : cF} {N : aN} (h : MRow A f 0 N) : f 6 = nI (nCo N) ∧ (∀ j, j < aNs A → f j = nI (nYa N j)) ∧ (∀ p, p < aNp A → f (7 + p) = nI (pop (nCl N p)) ∧ f (13 + p) = nI (nCl N p)) := by
  unfold MRow at h
  simpa using h
theorem nCl_lt {A : aT} {N : aN} (hA : TWf A) (hW : NWf A N) {p : Nat} (hp : p < aNp A) : nCl N p < 64 := Nat.lt_of_lt_of_le (hW.2.2.2 p hp) (pow_le64 hA.2.2.2.1)
theorem m_isWronged (S : zS) (d : Nat) (hc : List zC) (m : mS) {A : aT} {N : aN} (hA : TWf A) (hT : MTold (mTold m) A) (hW : NWf A N) (hN : MRow A (mNow m) 0 N) {p j : Nat} (hp : p < aNp A) (hj : j < aNs A) : Ex S (d + 2) 0 0 111 [.ref 1000, .int (nI p), .int (nI j)] (hc, hM m) (some (.int (b2i ((aWg A p).testBit (aIn A j) || (nCl N p).testBit j)))) (hc, hM m) := by
  have hns := hA.2.2.2.1
  have hnp := hA.2.2.2.2.1
  have hN := MRow_0 hN
  have h1 := fun h => m_hasX S d h (hA.2.2.2.2.2.2 p hp).2.2.2.2 (hA.2.2.2.2.2.1 j hj).2.2
  have h2 := fun h => m_hasX S d h (nCl_lt hA hW hp) (show j < 6 by omega)
  have g1 := (hT.2.2.2.2.2 p hp).2.2.2
  have g2 := (hT.2.2.2.2.1 j hj).2
  have g3 := (hN.2.2 p hp).2
  (refine exI rfl rfl ?_; intro X hX)
  repeat refine hX _ _ _ _ _ _ _ _ _ _ _ _ _ _ rfl ?_
  rw [show (34 : Int32) + nI p = nI (34 + p) from nI_add 34 p]
  refine ⟨vp_in_nI (by omega) (by decide), ?_⟩
  rw [nI_clamp (by omega)]
  rw [g1]
  repeat refine hX _ _ _ _ _ _ _ _ _ _ _ _ _ _ rfl ?_
  rw [show (10 : Int32) + nI j = nI (10 + j) from nI_add 10 j]
  refine ⟨vp_in_nI (by omega) (by decide), ?_⟩
  rw [nI_clamp (by omega)]
  rw [g2]
  repeat refine hX _ _ _ _ _ _ _ _ _ _ _ _ _ _ rfl ?_
  refine Or.inl ⟨_, _, h1 _, ?_⟩
  repeat refine hX _ _ _ _ _ _ _ _ _ _ _ _ _ _ rfl ?_
  cases hb : (aWg A p).testBit (aIn A j) with
  | true =>
    refine br_t (show ¬ b2i true = 0 by decide) ?_
    repeat refine hX _ _ _ _ _ _ _ _ _ _ _ _ _ _ rfl ?_
    exact ⟨Or.inr rfl, by rw [hb]; rfl, rfl⟩
  | false =>
    refine br_f (show ¬ ¬ b2i false = 0 by decide) ?_
    repeat refine hX _ _ _ _ _ _ _ _ _ _ _ _ _ _ rfl ?_
    rw [show (13 : Int32) + nI p = nI (13 + p) from nI_add 13 p]
    refine ⟨vp_in_nI (by omega) (by decide), ?_⟩
    rw [nI_clamp (by omega)]
    rw [g3]
    repeat refine hX _ _ _ _ _ _ _ _ _ _ _ _ _ _ rfl ?_
    refine Or.inl ⟨_, _, h2 _, ?_⟩
    repeat refine hX _ _ _ _ _ _ _ _ _ _ _ _ _ _ rfl ?_
    cases hb2 : (nCl N p).testBit j with
    | true =>
      refine br_f (show ¬ b2i true = 0 by decide) ?_
      repeat refine hX _ _ _ _ _ _ _ _ _ _ _ _ _ _ rfl ?_
      exact ⟨Or.inr rfl, by rw [hb, hb2]; rfl, rfl⟩
    | false =>
      refine br_t (show b2i false = 0 from rfl) ?_
      repeat refine hX _ _ _ _ _ _ _ _ _ _ _ _ _ _ rfl ?_
      exact ⟨Or.inl rfl, by rw [hb, hb2]; rfl, rfl⟩
theorem m_wronged (S : zS) (d : Nat) (hc : List zC) (m : mS) {A : aT} {N : aN} (hA : TWf A) (hT : MTold (mTold m) A) (hW : NWf A N) (hN : MRow A (mNow m) 0 N) {j : Nat} (hj : j < aNs A) : Ex S (d + 3) 0 0 112 [.ref 1000, .int (nI j)] (hc, hM m) (some (.int (nI (aWr A N j)))) (hc, hM m) := by
  have hnp := hA.2.2.2.2.1
  have hw := fun p (hp : p < aNp A) => m_isWronged S d hc m hA hT hW hN hp hj
  have g := hT.2.2.1
  (refine exI rfl rfl ?_; intro X hX)
  have loop : ∀ (k p : Nat), p + k = aNp A → X 4 [some (.ref 1000), some (.int (nI j)), some (.int (nI (nmask p (fun p => (aWg A p).testBit (aIn A j) || (nCl N p).testBit j)))), some (.int (nI p))] [] (hc, hM m) 0 0 := by
    intro k
    induction k with
    | zero =>
      intro p hp
      repeat refine hX _ _ _ _ _ _ _ _ _ _ _ _ _ _ rfl ?_
      refine ⟨by unfold vp_in; decide, ?_⟩
      rw [show (2 : Int32).toNatClampNeg = 2 from rfl]
      rw [g]
      repeat refine hX _ _ _ _ _ _ _ _ _ _ _ _ _ _ rfl ?_
      refine br_t (show nI (aNp A) ≤ nI p from nI_le (by omega) (by omega)) ?_
      repeat refine hX _ _ _ _ _ _ _ _ _ _ _ _ _ _ rfl ?_
      exact ⟨by rw [show p = aNp A by omega]; rfl, rfl⟩
    | succ k ih =>
      intro p hp
      repeat refine hX _ _ _ _ _ _ _ _ _ _ _ _ _ _ rfl ?_
      refine ⟨by unfold vp_in; decide, ?_⟩
      rw [show (2 : Int32).toNatClampNeg = 2 from rfl]
      rw [g]
      repeat refine hX _ _ _ _ _ _ _ _ _ _ _ _ _ _ rfl ?_
      refine br_f (show ¬ nI (aNp A) ≤ nI p from nI_ge (by omega) (by omega)) ?_
      repeat refine hX _ _ _ _ _ _ _ _ _ _ _ _ _ _ rfl ?_
      refine Or.inl ⟨_, _, hw p (by omega), ?_⟩
      repeat refine hX _ _ _ _ _ _ _ _ _ _ _ _ _ _ rfl ?_
      have h7 := ih (p + 1) (by omega)
      rw [nmask] at h7
      cases hb : ((aWg A p).testBit (aIn A j) || (nCl N p).testBit j) with
      | false =>
        refine br_t (show b2i false = 0 from rfl) ?_
        iterate 5 (refine hX _ _ _ _ _ _ _ _ _ _ _ _ _ _ rfl ?_)
        rw [nI_1, show nI (nmask p (fun p => (aWg A p).testBit (aIn A j) || (nCl N p).testBit j)) ||| 0 = nI (nmask p (fun p => (aWg A p).testBit (aIn A j) || (nCl N p).testBit j)) from Int32.or_zero]
        rw [hb] at h7
        exact h7
      | true =>
        refine br_f (show ¬ b2i true = 0 by decide) ?_
        iterate 8 (refine hX _ _ _ _ _ _ _ _ _ _ _ _ _ _ rfl ?_)
        rw [nI_1, q_shl p (by omega), nI_or, nmask_set]
        rw [hb] at h7
        exact h7
  iterate 4 (refine hX _ _ _ _ _ _ _ _ _ _ _ _ _ _ rfl ?_)
  exact loop (aNp A) 0 (by omega)
theorem m_strength (S : zS) (d : Nat) (hc : List zC) (m : mS) {A : aT} (hA : TWf A) (hT : MTold (mTold m) A) {set : Nat} (hs : set < 64) : Ex S (d + 2) 0 0 113 [.ref 1000, .int (nI set)] (hc, hM m) (some (.int (nI (aStr A set)))) (hc, hM m) := by
  have hnp := hA.2.2.2.2.1
  have g := hT.2.2.1
  have g2 := hT.2.2.2.2.2
  (refine exI rfl rfl ?_; intro X hX)
  have loop : ∀ (k p : Nat), p + k = aNp A → X 4 [some (.ref 1000), some (.int (nI set)), some (.int (nI (aSum (aSt A) set p))), some (.int (nI p))] [] (hc, hM m) 0 0 := by
    intro k
    induction k with
    | zero =>
      intro p hp
      repeat refine hX _ _ _ _ _ _ _ _ _ _ _ _ _ _ rfl ?_
      refine ⟨by unfold vp_in; decide, ?_⟩
      rw [show (2 : Int32).toNatClampNeg = 2 from rfl]
      rw [g]
      repeat refine hX _ _ _ _ _ _ _ _ _ _ _ _ _ _ rfl ?_
      refine br_t (show nI (aNp A) ≤ nI p from nI_le (by omega) (by omega)) ?_
      repeat refine hX _ _ _ _ _ _ _ _ _ _ _ _ _ _ rfl ?_
      exact ⟨by rw [show p = aNp A by omega]; rfl, rfl⟩
    | succ k ih =>
      intro p hp
      repeat refine hX _ _ _ _ _ _ _ _ _ _ _ _ _ _ rfl ?_
      refine ⟨by unfold vp_in; decide, ?_⟩
      rw [show (2 : Int32).toNatClampNeg = 2 from rfl]
      rw [g]
      repeat refine hX _ _ _ _ _ _ _ _ _ _ _ _ _ _ rfl ?_
      refine br_f (show ¬ nI (aNp A) ≤ nI p from nI_ge (by omega) (by omega)) ?_
      repeat refine hX _ _ _ _ _ _ _ _ _ _ _ _ _ _ rfl ?_
      refine Or.inl ⟨_, _, m_hasX S d _ hs (by omega), ?_⟩
      repeat refine hX _ _ _ _ _ _ _ _ _ _ _ _ _ _ rfl ?_
      have h7 := ih (p + 1) (by omega)
      rw [aSum] at h7
      cases hb : set.testBit p with
      | false =>
        refine br_t (show b2i false = 0 from rfl) ?_
        iterate 5 (refine hX _ _ _ _ _ _ _ _ _ _ _ _ _ _ rfl ?_)
        rw [nI_1, show (0 : Int32) = nI 0 from rfl, nI_add]
        rw [hb] at h7
        exact h7
      | true =>
        refine br_f (show ¬ b2i true = 0 by decide) ?_
        repeat refine hX _ _ _ _ _ _ _ _ _ _ _ _ _ _ rfl ?_
        rw [show (22 : Int32) + nI p = nI (22 + p) from nI_add 22 p]
        refine ⟨vp_in_nI (by omega) (by decide), ?_⟩
        rw [nI_clamp (by omega)]
        rw [(g2 p (by omega)).2.1]
        iterate 5 (refine hX _ _ _ _ _ _ _ _ _ _ _ _ _ _ rfl ?_)
        rw [nI_1, nI_add]
        rw [hb] at h7
        exact h7
  iterate 4 (refine hX _ _ _ _ _ _ _ _ _ _ _ _ _ _ rfl ?_)
  exact loop (aNp A) 0 (by omega)
