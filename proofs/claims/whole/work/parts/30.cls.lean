/-! ===== the class: the calls that only read ===== -/
def spStatue (A : aT) (N : aN) (s w : Int32) : Int32 := bif inb s (aNs A) then sel w (-1) [(0, nI (nYa N s.toNatClampNeg)), (1, nI (aWe A s.toNatClampNeg)), (2, nI (aIn A s.toNatClampNeg)), (3, nI (aWr A N s.toNatClampNeg)), (4, nI (aPull A N s.toNatClampNeg)), (5, nI (aOff A N s.toNatClampNeg (nYa N s.toNatClampNeg))), (6, nI (aPlc A N s.toNatClampNeg (aNy A)).1)] else -1
theorem c_statue (S : zS) (d : Nat) (sw : Bool) (c : cS) (hm : List zC) {A : aT} {N : aN} (hA : TWf A) (hT : TRel (cTo c) A) (hW : NWf A N) (hN : NRel A (cSc c) N) (s w : Int32) : Ex S (d + 4) 0 0 41 [.ref 0, .int s, .int w] (hC sw c, hm) (some (.int (spStatue A N s w))) (hC sw c, hm) := by
  have hns := hA.2.2.2.1
  have hny := hA.2.1
  have hst := c_hasStatue S (d + 2) sw c hm hT.2.2.1 s
  have hwr := fun j (hj : j < aNs A) => c_wr S (d + 2) sw c hm hA hT hN hj
  have hpu := fun j (hj : j < aNs A) => c_pullAt S d sw c hm hA hT hW hN hj
  have hof := fun j (hj : j < aNs A) y (hy : y < 10) => c_offIn S (d + 1) sw c hm hA hT hN hj hy
  have hpl := fun j (hj : j < aNs A) => c_placeOf S d sw c hm hA hT hW hN hj
  have h5 := hT.2.2.2.2.1
  have h6 := hN.2.1
  unfold spStatue
  cases hin : inb s (aNs A) with
  | false =>
    rw [hin] at hst
    cases sw
    all_goals
      (refine exI rfl rfl ?_; intro X hX)
      repeat refine hX _ _ _ _ _ _ _ _ _ _ _ _ _ _ rfl ?_
      refine Or.inl ⟨_, _, hst, ?_⟩
      repeat refine hX _ _ _ _ _ _ _ _ _ _ _ _ _ _ rfl ?_
      refine br_f (show ¬ ¬ b2i false = 0 by decide) ?_
      repeat refine hX _ _ _ _ _ _ _ _ _ _ _ _ _ _ rfl ?_
      exact ⟨rfl, rfl⟩
  | true =>
    rw [hin] at hst
    obtain ⟨j, hj, rfl⟩ := inb_of hin (by omega)
    simp only [cond_true, nI_clamp (show j < 2 ^ 31 by omega)]
    cases sw
    all_goals
      (refine exI rfl rfl ?_; intro X hX)
      repeat refine hX _ _ _ _ _ _ _ _ _ _ _ _ _ _ rfl ?_
      refine Or.inl ⟨_, _, hst, ?_⟩
      repeat refine hX _ _ _ _ _ _ _ _ _ _ _ _ _ _ rfl ?_
      have hyj := hW.2.1 j hj
      refine br_t (show ¬ b2i true = 0 by decide) ?_
      repeat refine hX _ _ _ _ _ _ _ _ _ _ _ _ _ _ rfl ?_
      refine ⟨fun hw => ?_, fun h0 => ⟨fun hw => ?_, fun h1 => ⟨fun hw => ?_, fun h2 => ⟨fun hw => ?_, fun h3 => ⟨fun hw => ?_, fun h4 => ⟨fun hw => ?_, fun h5 => ⟨fun hw => ?_, fun h6 => ?_⟩⟩⟩⟩⟩⟩⟩
      · subst hw
        repeat refine hX _ _ _ _ _ _ _ _ _ _ _ _ _ _ rfl ?_
        refine ⟨vp_in_nI (by omega) (by decide), ?_⟩
        rw [nI_clamp (by omega)]
        rw [h6 j hj]
        repeat refine hX _ _ _ _ _ _ _ _ _ _ _ _ _ _ rfl ?_
        exact ⟨rfl, rfl⟩
      · subst hw
        repeat refine hX _ _ _ _ _ _ _ _ _ _ _ _ _ _ rfl ?_
        refine ⟨vp_in_nI (by omega) (by decide), ?_⟩
        rw [nI_clamp (by omega)]
        rw [(h5 j hj).1]
        repeat refine hX _ _ _ _ _ _ _ _ _ _ _ _ _ _ rfl ?_
        exact ⟨rfl, rfl⟩
      · subst hw
        repeat refine hX _ _ _ _ _ _ _ _ _ _ _ _ _ _ rfl ?_
        refine ⟨vp_in_nI (by omega) (by decide), ?_⟩
        rw [nI_clamp (by omega)]
        rw [(h5 j hj).2.1]
        repeat refine hX _ _ _ _ _ _ _ _ _ _ _ _ _ _ rfl ?_
        exact ⟨rfl, rfl⟩
      · subst hw
        repeat refine hX _ _ _ _ _ _ _ _ _ _ _ _ _ _ rfl ?_
        refine Or.inl ⟨_, _, hwr j hj, ?_⟩
        repeat refine hX _ _ _ _ _ _ _ _ _ _ _ _ _ _ rfl ?_
        exact ⟨rfl, rfl⟩
      · subst hw
        repeat refine hX _ _ _ _ _ _ _ _ _ _ _ _ _ _ rfl ?_
        refine Or.inl ⟨_, _, hpu j hj, ?_⟩
        repeat refine hX _ _ _ _ _ _ _ _ _ _ _ _ _ _ rfl ?_
        exact ⟨rfl, rfl⟩
      · subst hw
        repeat refine hX _ _ _ _ _ _ _ _ _ _ _ _ _ _ rfl ?_
        refine ⟨vp_in_nI (by omega) (by decide), ?_⟩
        rw [nI_clamp (by omega)]
        rw [h6 j hj]
        repeat refine hX _ _ _ _ _ _ _ _ _ _ _ _ _ _ rfl ?_
        refine Or.inl ⟨_, _, hof j hj _ (by omega), ?_⟩
        repeat refine hX _ _ _ _ _ _ _ _ _ _ _ _ _ _ rfl ?_
        exact ⟨rfl, rfl⟩
      · subst hw
        repeat refine hX _ _ _ _ _ _ _ _ _ _ _ _ _ _ rfl ?_
        refine Or.inl ⟨_, _, hpl j hj, ?_⟩
        repeat refine hX _ _ _ _ _ _ _ _ _ _ _ _ _ _ rfl ?_
        exact ⟨rfl, rfl⟩
      · repeat refine hX _ _ _ _ _ _ _ _ _ _ _ _ _ _ rfl ?_
        exact ⟨by simp only [sel]; rw [if_neg h0, if_neg h1, if_neg h2, if_neg h3, if_neg h4, if_neg h5, if_neg h6], rfl⟩
def spOne (A : aT) (N : aN) (s w : Int32) : Int32 := bif inb s (aNp A) then sel w (-1) [(0, nI (aHo A s.toNatClampNeg)), (1, nI (aSt A s.toNatClampNeg)), (2, nI (aCr A s.toNatClampNeg)), (3, nI (aWg A s.toNatClampNeg)), (4, b2i ((nCo N).testBit s.toNatClampNeg)), (5, nI (pop (nCl N s.toNatClampNeg)))] else -1
theorem c_one (S : zS) (d : Nat) (sw : Bool) (c : cS) (hm : List zC) {A : aT} {N : aN} (hA : TWf A) (hT : TRel (cTo c) A) (hW : NWf A N) (hN : NRel A (cSc c) N) (s w : Int32) : Ex S (d + 3) 0 0 42 [.ref 0, .int s, .int w] (hC sw c, hm) (some (.int (spOne A N s w))) (hC sw c, hm) := by
  have hnp := hA.2.2.2.2.1
  have hst := c_hasOne S (d + 1) sw c hm hT.2.2.2.1 s
  have htb := fun j (hj : j < aNp A) => c_timesB S d sw c hm hA hN hj
  have h5 := hT.2.2.2.2.2
  have h6 := hN.1
  have hco := nCo_lt hA hW
  unfold spOne
  cases hin : inb s (aNp A) with
  | false =>
    rw [hin] at hst
    cases sw
    all_goals
      (refine exI rfl rfl ?_; intro X hX)
      repeat refine hX _ _ _ _ _ _ _ _ _ _ _ _ _ _ rfl ?_
      refine Or.inl ⟨_, _, hst, ?_⟩
      repeat refine hX _ _ _ _ _ _ _ _ _ _ _ _ _ _ rfl ?_
      refine br_f (show ¬ ¬ b2i false = 0 by decide) ?_
      repeat refine hX _ _ _ _ _ _ _ _ _ _ _ _ _ _ rfl ?_
      exact ⟨rfl, rfl⟩
  | true =>
    rw [hin] at hst
    obtain ⟨j, hj, rfl⟩ := inb_of hin (by omega)
    simp only [cond_true, nI_clamp (show j < 2 ^ 31 by omega)]
    cases sw
    all_goals
      (refine exI rfl rfl ?_; intro X hX)
      repeat refine hX _ _ _ _ _ _ _ _ _ _ _ _ _ _ rfl ?_
      refine Or.inl ⟨_, _, hst, ?_⟩
      repeat refine hX _ _ _ _ _ _ _ _ _ _ _ _ _ _ rfl ?_
      refine br_t (show ¬ b2i true = 0 by decide) ?_
      repeat refine hX _ _ _ _ _ _ _ _ _ _ _ _ _ _ rfl ?_
      refine ⟨fun hw => ?_, fun h0 => ⟨fun hw => ?_, fun h1 => ⟨fun hw => ?_, fun h2 => ⟨fun hw => ?_, fun h3 => ⟨fun hw => ?_, fun h4 => ⟨fun hw => ?_, fun h5 => ?_⟩⟩⟩⟩⟩⟩
      · subst hw
        repeat refine hX _ _ _ _ _ _ _ _ _ _ _ _ _ _ rfl ?_
        refine ⟨vp_in_nI (by omega) (by decide), ?_⟩
        rw [nI_clamp (by omega)]
        rw [(h5 j hj).1]
        repeat refine hX _ _ _ _ _ _ _ _ _ _ _ _ _ _ rfl ?_
        exact ⟨rfl, rfl⟩
      · subst hw
        repeat refine hX _ _ _ _ _ _ _ _ _ _ _ _ _ _ rfl ?_
        refine ⟨vp_in_nI (by omega) (by decide), ?_⟩
        rw [nI_clamp (by omega)]
        rw [(h5 j hj).2.1]
        repeat refine hX _ _ _ _ _ _ _ _ _ _ _ _ _ _ rfl ?_
        exact ⟨rfl, rfl⟩
      · subst hw
        repeat refine hX _ _ _ _ _ _ _ _ _ _ _ _ _ _ rfl ?_
        refine ⟨vp_in_nI (by omega) (by decide), ?_⟩
        rw [nI_clamp (by omega)]
        rw [(h5 j hj).2.2.1]
        repeat refine hX _ _ _ _ _ _ _ _ _ _ _ _ _ _ rfl ?_
        exact ⟨rfl, rfl⟩
      · subst hw
        repeat refine hX _ _ _ _ _ _ _ _ _ _ _ _ _ _ rfl ?_
        refine ⟨vp_in_nI (by omega) (by decide), ?_⟩
        rw [nI_clamp (by omega)]
        rw [(h5 j hj).2.2.2]
        repeat refine hX _ _ _ _ _ _ _ _ _ _ _ _ _ _ rfl ?_
        exact ⟨rfl, rfl⟩
      · subst hw
        repeat refine hX _ _ _ _ _ _ _ _ _ _ _ _ _ _ rfl ?_
        rw [h6]
        refine Or.inl ⟨_, _, c_hasX S (d + 1) _ hco (by omega), ?_⟩
        repeat refine hX _ _ _ _ _ _ _ _ _ _ _ _ _ _ rfl ?_
        cases hb : (nCo N).testBit j with
        | false =>
          refine br_t (show b2i false = 0 from rfl) ?_
          repeat refine hX _ _ _ _ _ _ _ _ _ _ _ _ _ _ rfl ?_
          exact ⟨by simp only [sel]; rw [hb]; rfl, rfl⟩
        | true =>
          refine br_f (show ¬ b2i true = 0 by decide) ?_
          repeat refine hX _ _ _ _ _ _ _ _ _ _ _ _ _ _ rfl ?_
          exact ⟨by simp only [sel]; rw [hb]; rfl, rfl⟩
      · subst hw
        repeat refine hX _ _ _ _ _ _ _ _ _ _ _ _ _ _ rfl ?_
        refine Or.inl ⟨_, _, htb j hj, ?_⟩
        repeat refine hX _ _ _ _ _ _ _ _ _ _ _ _ _ _ rfl ?_
        exact ⟨rfl, rfl⟩
      · repeat refine hX _ _ _ _ _ _ _ _ _ _ _ _ _ _ rfl ?_
        exact ⟨by simp only [sel]; rw [if_neg h0, if_neg h1, if_neg h2, if_neg h3, if_neg h4, if_neg h5], rfl⟩
def spNow (a : aS) (w : Int32) : Int32 := sel w (-1) [(0, nI (nCo (sN a))), (1, nI (aMvs (sT a) (sN a))), (2, nI (aEmp (sT a) (sN a))), (3, nI (sK a))]
theorem c_now (S : zS) (d : Nat) (sw : Bool) (c : cS) (hm : List zC) {a : aS} (hA : AWf a) (hR : CRel c a) (w : Int32) : Ex S (d + 6) 0 0 43 [.ref 0, .int w] (hC sw c, hm) (some (.int (spNow a w))) (hC sw c, hm) := by
  have hmv := c_moving S d sw c hm hA.1 hR.1 hA.2.1 hR.2.1
  have hem := c_emptyY S (d + 3) sw c hm hA.1 hR.1 hR.2.1
  have g1 := hR.2.1.1
  have g2 := hR.2.2.2.1.1
  unfold spNow
  cases sw
  all_goals
    (refine exI rfl rfl ?_; intro X hX)
    repeat refine hX _ _ _ _ _ _ _ _ _ _ _ _ _ _ rfl ?_
    refine ⟨fun hw => ?_, fun h0 => ⟨fun hw => ?_, fun h1 => ⟨fun hw => ?_, fun h2 => ⟨fun hw => ?_, fun h3 => ?_⟩⟩⟩⟩
    · subst hw
      repeat refine hX _ _ _ _ _ _ _ _ _ _ _ _ _ _ rfl ?_
      rw [g1]
      exact ⟨rfl, rfl⟩
    · subst hw
      repeat refine hX _ _ _ _ _ _ _ _ _ _ _ _ _ _ rfl ?_
      refine Or.inl ⟨_, _, hmv, ?_⟩
      repeat refine hX _ _ _ _ _ _ _ _ _ _ _ _ _ _ rfl ?_
      exact ⟨rfl, rfl⟩
    · subst hw
      repeat refine hX _ _ _ _ _ _ _ _ _ _ _ _ _ _ rfl ?_
      refine Or.inl ⟨_, _, hem, ?_⟩
      repeat refine hX _ _ _ _ _ _ _ _ _ _ _ _ _ _ rfl ?_
      exact ⟨rfl, rfl⟩
    · subst hw
      repeat refine hX _ _ _ _ _ _ _ _ _ _ _ _ _ _ rfl ?_
      rw [g2]
      exact ⟨rfl, rfl⟩
    · repeat refine hX _ _ _ _ _ _ _ _ _ _ _ _ _ _ rfl ?_
      exact ⟨by simp only [sel]; rw [if_neg h0, if_neg h1, if_neg h2, if_neg h3], rfl⟩
def spOffends (A : aT) (N : aN) (s y : Int32) : Int32 := bif inb s (aNs A) && inb y (aNy A) then nI (aOff A N s.toNatClampNeg y.toNatClampNeg) else -1
theorem c_offends (S : zS) (d : Nat) (sw : Bool) (c : cS) (hm : List zC) {A : aT} {N : aN} (hA : TWf A) (hT : TRel (cTo c) A) (hN : NRel A (cSc c) N) (s y : Int32) : Ex S (d + 3) 0 0 52 [.ref 0, .int s, .int y] (hC sw c, hm) (some (.int (spOffends A N s y))) (hC sw c, hm) := by
  have hns := hA.2.2.2.1
  have hny := hA.2.1
  have hst := c_hasStatue S (d + 1) sw c hm hT.2.2.1 s
  have hya := c_hasYard S (d + 1) sw c hm hT.1 y
  have hof := fun j (hj : j < aNs A) y (hy : y < 10) => c_offIn S d sw c hm hA hT hN hj hy
  unfold spOffends
  cases hin : inb s (aNs A) with
  | false =>
    rw [hin] at hst
    cases sw
    all_goals
      (refine exI rfl rfl ?_; intro X hX)
      repeat refine hX _ _ _ _ _ _ _ _ _ _ _ _ _ _ rfl ?_
      refine Or.inl ⟨_, _, hst, ?_⟩
      repeat refine hX _ _ _ _ _ _ _ _ _ _ _ _ _ _ rfl ?_
      refine br_t (show b2i false = 0 from rfl) ?_
      repeat refine hX _ _ _ _ _ _ _ _ _ _ _ _ _ _ rfl ?_
      exact ⟨rfl, rfl⟩
  | true =>
    rw [hin] at hst
    obtain ⟨j, hj, rfl⟩ := inb_of hin (by omega)
    cases hiy : inb y (aNy A) with
    | false =>
      rw [hiy] at hya
      cases sw
      all_goals
        (refine exI rfl rfl ?_; intro X hX)
        repeat refine hX _ _ _ _ _ _ _ _ _ _ _ _ _ _ rfl ?_
        refine Or.inl ⟨_, _, hst, ?_⟩
        repeat refine hX _ _ _ _ _ _ _ _ _ _ _ _ _ _ rfl ?_
        refine br_f (show ¬ b2i true = 0 by decide) ?_
        repeat refine hX _ _ _ _ _ _ _ _ _ _ _ _ _ _ rfl ?_
        refine Or.inl ⟨_, _, hya, ?_⟩
        repeat refine hX _ _ _ _ _ _ _ _ _ _ _ _ _ _ rfl ?_
        refine br_f (show ¬ ¬ b2i false = 0 by decide) ?_
        repeat refine hX _ _ _ _ _ _ _ _ _ _ _ _ _ _ rfl ?_
        exact ⟨rfl, rfl⟩
    | true =>
      rw [hiy] at hya
      obtain ⟨z, hz, rfl⟩ := inb_of hiy (by omega)
      simp only [cond_true, Bool.and_self, nI_clamp (show j < 2 ^ 31 by omega), nI_clamp (show z < 2 ^ 31 by omega)]
      cases sw
      all_goals
        (refine exI rfl rfl ?_; intro X hX)
        repeat refine hX _ _ _ _ _ _ _ _ _ _ _ _ _ _ rfl ?_
        refine Or.inl ⟨_, _, hst, ?_⟩
        repeat refine hX _ _ _ _ _ _ _ _ _ _ _ _ _ _ rfl ?_
        refine br_f (show ¬ b2i true = 0 by decide) ?_
        repeat refine hX _ _ _ _ _ _ _ _ _ _ _ _ _ _ rfl ?_
        refine Or.inl ⟨_, _, hya, ?_⟩
        repeat refine hX _ _ _ _ _ _ _ _ _ _ _ _ _ _ rfl ?_
        refine br_t (show ¬ b2i true = 0 by decide) ?_
        repeat refine hX _ _ _ _ _ _ _ _ _ _ _ _ _ _ rfl ?_
        refine Or.inl ⟨_, _, hof j hj z (by omega), ?_⟩
        repeat refine hX _ _ _ _ _ _ _ _ _ _ _ _ _ _ rfl ?_
        exact ⟨rfl, rfl⟩
def spCount (a : aS) (w : Int32) : Int32 := sel w (-1) [(0, nI (aNy (sT a))), (1, nI (aNs (sT a))), (2, nI (aNp (sT a))), (3, nI (aSi (sT a))), (4, nI (sQ a)), (5, nI (sLen a))]
theorem c_count (S : zS) (d : Nat) (sw : Bool) (c : cS) (hm : List zC) {a : aS} (hR : CRel c a) (w : Int32) : Ex S (d + 1) 0 0 61 [.ref 0, .int w] (hC sw c, hm) (some (.int (spCount a w))) (hC sw c, hm) := by
  obtain ⟨⟨g1, g2, g3, g4, -, -⟩, -, ⟨g5, -⟩, -, -, -, -, ⟨g6, -⟩, -⟩ := hR
  unfold spCount
  cases sw
  all_goals
    (refine exI rfl rfl ?_; intro X hX)
    repeat refine hX _ _ _ _ _ _ _ _ _ _ _ _ _ _ rfl ?_
    refine ⟨fun hw => ?_, fun h0 => ⟨fun hw => ?_, fun h1 => ⟨fun hw => ?_, fun h2 => ⟨fun hw => ?_, fun h3 => ⟨fun hw => ?_, fun h4 => ⟨fun hw => ?_, fun h5 => ?_⟩⟩⟩⟩⟩⟩
    · subst hw
      repeat refine hX _ _ _ _ _ _ _ _ _ _ _ _ _ _ rfl ?_
      rw [g1]
      exact ⟨rfl, rfl⟩
    · subst hw
      repeat refine hX _ _ _ _ _ _ _ _ _ _ _ _ _ _ rfl ?_
      rw [g3]
      exact ⟨rfl, rfl⟩
    · subst hw
      repeat refine hX _ _ _ _ _ _ _ _ _ _ _ _ _ _ rfl ?_
      rw [g4]
      exact ⟨rfl, rfl⟩
    · subst hw
      repeat refine hX _ _ _ _ _ _ _ _ _ _ _ _ _ _ rfl ?_
      rw [g2]
      exact ⟨rfl, rfl⟩
    · subst hw
      repeat refine hX _ _ _ _ _ _ _ _ _ _ _ _ _ _ rfl ?_
      rw [g6]
      exact ⟨rfl, rfl⟩
    · subst hw
      repeat refine hX _ _ _ _ _ _ _ _ _ _ _ _ _ _ rfl ?_
      rw [g5]
      exact ⟨rfl, rfl⟩
    · repeat refine hX _ _ _ _ _ _ _ _ _ _ _ _ _ _ rfl ?_
      exact ⟨by simp only [sel]; rw [if_neg h0, if_neg h1, if_neg h2, if_neg h3, if_neg h4, if_neg h5], rfl⟩
theorem c_trace (S : zS) (d : Nat) (sw : Bool) (c : cS) (hm : List zC) {a : aS} (hR : CRel c a) : Ex S (d + 1) 0 0 62 [.ref 0] (hC sw c, hm) (some (.long (sTr a))) (hC sw c, hm) := by
  obtain ⟨-, -, -, -, -, -, -, -, hr⟩ := hR
  cases sw
  all_goals
    (refine exI rfl rfl ?_; intro X hX)
    repeat refine hX _ _ _ _ _ _ _ _ _ _ _ _ _ _ rfl ?_
    rw [hr]
    exact ⟨rfl, rfl⟩
