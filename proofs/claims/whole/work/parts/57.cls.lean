theorem nb_ge (tx : aF) {L b : Nat} (h : b ≤ L) : b ≤ nb tx L b ∧ nb tx L b ≤ L := by
  have h1 := nb_le tx h
  have h2 := tE_le tx h
  exact ⟨by omega, h1.2⟩
theorem pEnd_b {tx : aF} {L b : Nat} {T T' : aT} {ya ya' : aF} {si si' : Bool} {bl : Nat} (h : pEnd tx L b T ya si = .inr (bl, T', ya', si')) : bl = b ∧ b < L := by
  unfold pEnd at h
  by_cases hk : tK tx L b = 3
  · rw [decide_eq_true hk] at h; cases h; exact ⟨rfl, tK_lt hk⟩
  · rw [decide_eq_false hk] at h; cases h
theorem pItm_b {tx : aF} {L b0 it : Nat} {T T' : aT} {ya ya' : aF} {si si' : Bool} {bl : Nat} (hb0 : b0 ≤ L) (h : pItm tx L b0 T ya si it = .inr (bl, T', ya', si')) : b0 ≤ bl ∧ bl < L := by
  have hb1 := nb_ge tx hb0
  have hb2 := nb_ge tx hb1.2
  have hb3 := nb_ge tx hb2.2
  have hb4 := nb_ge tx hb3.2
  have hb5 := nb_ge tx hb4.2
  unfold pItm at h
  cases h1 : (decide (tK tx L b0 = 1) && decide (tE tx L b0 - b0 = 1)) with
  | false => rw [h1] at h; cases h
  | true =>
    rw [h1] at h
    simp only [cond_true] at h
    by_cases c1 : tx b0 = 110
    · rw [if_pos c1] at h
      unfold pYar at h
      cases h2 : decide (it = 0) with
      | false => rw [h2] at h; cases h
      | true =>
        rw [h2] at h
        simp only [cond_true] at h
        cases h3 : rng tx L (nb tx L b0) 2 10 with
        | false => rw [h3] at h; cases h
        | true =>
          rw [h3] at h
          simp only [cond_true] at h
          have := pEnd_b h
          omega
    · rw [if_neg c1] at h
      by_cases c2 : tx b0 = 116
      · rw [if_pos c2] at h
        unfold pSta at h
        cases h2 : decide (aNs T = 6) with
        | true => rw [h2] at h; cases h
        | false =>
          rw [h2] at h
          simp only [cond_false] at h
          cases h3 : (rng tx L (nb tx L b0) 0 (aNy T - 1) && !taken ya (tN tx L (nb tx L b0)) (aNs T)) with
          | false => rw [h3] at h; cases h
          | true =>
            rw [h3] at h
            simp only [cond_true] at h
            cases h4 : rng tx L (nb tx L (nb tx L b0)) 1 30 with
            | false => rw [h4] at h; cases h
            | true =>
              rw [h4] at h
              simp only [cond_true] at h
              cases h5 : tI tx L (nb tx L (nb tx L (nb tx L b0))) 1 with
              | false => rw [h5] at h; cases h
              | true =>
                rw [h5] at h
                simp only [cond_true] at h
                have := pEnd_b h
                omega
      · rw [if_neg c2] at h
        by_cases c3 : tx b0 = 112
        · rw [if_pos c3] at h
          unfold pOne at h
          cases h2 : decide (aNp T = 6) with
          | true => rw [h2] at h; cases h
          | false =>
            rw [h2] at h
            simp only [cond_false] at h
            cases h3 : rng tx L (nb tx L b0) 0 (aNy T - 1) with
            | false => rw [h3] at h; cases h
            | true =>
              rw [h3] at h
              simp only [cond_true] at h
              cases h4 : rng tx L (nb tx L (nb tx L b0)) 1 9 with
              | false => rw [h4] at h; cases h
              | true =>
                rw [h4] at h
                simp only [cond_true] at h
                cases h5 : rng tx L (nb tx L (nb tx L (nb tx L b0))) 0 3 with
                | false => rw [h5] at h; cases h
                | true =>
                  rw [h5] at h
                  simp only [cond_true] at h
                  cases h6 : tI tx L (nb tx L (nb tx L (nb tx L (nb tx L b0)))) 6 with
                  | false => rw [h6] at h; cases h
                  | true =>
                    rw [h6] at h
                    simp only [cond_true] at h
                    have := pEnd_b h
                    omega
        · rw [if_neg c3] at h
          by_cases c4 : tx b0 = 118
          · rw [if_pos c4] at h
            unfold pSig at h
            cases si with
            | true => cases h
            | false =>
              simp only [cond_false] at h
              cases h2 : rng tx L (nb tx L b0) 0 3 with
              | false => rw [h2] at h; cases h
              | true =>
                rw [h2] at h
                simp only [cond_true] at h
                have := pEnd_b h
                omega
          · rw [if_neg c4] at h
            cases h
theorem c_readItem (S : zS) (d : Nat) (sw : Bool) (c : cS) (hm : List zC) {tx : aF} {L b0 it : Nat} {T : aT} {ya : aF} {si : Bool} (hR : RR (cRd c) tx L) (hb0 : b0 < L) (hit : rItems (cRd c) = nI it) (hil : it ≤ L) (hsi : rSightTold (cRd c) = b2i si) (hP : PWf T ya) (hS : SRel (cSp c) T ya) (n : Int32) : ∃ r' t', Ex S (d + 5) 0 0 10 [.ref 1] (hC sw (s_cRd c (rX (cRd c) (nI b0) (nI (tE tx L b0)) (nI (tK tx L b0)) n)), hm) (some (.int (b2i (isR (pItm tx L b0 T ya si it))))) (hC sw (s_cSp (s_cRd c r') t'), hm) ∧ CPost tx L c r' t' (pItm tx L b0 T ya si it) := by
  have hL := hR.1
  have hb0' := Nat.le_of_lt hb0
  have hte := tE_le tx hb0'
  have htk := tK_le tx L b0
  have htx := hR.2.2.1 b0 hb0
  have htl := hR.2.2.2 b0 hb0
  unfold pItm
  by_cases hk : tK tx L b0 = 1
  · rw [decide_eq_true hk, Bool.true_and]
    by_cases he : tE tx L b0 - b0 = 1
    · rw [decide_eq_true he]
      simp only [cond_true]
      by_cases c1 : tx b0 = 110
      · rw [if_pos c1]
        obtain ⟨r', t', hx, hp⟩ := c_readYards S d sw c hm hR hb0' hit hil hsi hS (nI (tK tx L b0)) n
        refine ⟨r', t', ?_, hp⟩
        cases sw
        all_goals
          (refine exI rfl rfl ?_; intro X hX)
          repeat refine hX _ _ _ _ _ _ _ _ _ _ _ _ _ _ rfl ?_
          refine br_f (show ¬ ¬ nI (tK tx L b0) = nI 1 from fun h => h (congrArg nI hk)) ?_
          iterate 6 (refine hX _ _ _ _ _ _ _ _ _ _ _ _ _ _ rfl ?_)
          rw [show nI (tE tx L b0) - nI b0 = nI (tE tx L b0 - b0) from pk_sub (by omega)]
          iterate 1 (refine hX _ _ _ _ _ _ _ _ _ _ _ _ _ _ rfl ?_)
          refine br_t (show nI (tE tx L b0 - b0) = nI 1 from congrArg nI he) ?_
          repeat refine hX _ _ _ _ _ _ _ _ _ _ _ _ _ _ rfl ?_
          refine ⟨vp_in_nI (by omega) (by decide), ?_⟩
          rw [nI_clamp (by omega)]
          rw [htx, c1]
          iterate 1 (refine hX _ _ _ _ _ _ _ _ _ _ _ _ _ _ rfl ?_)
          refine ⟨fun _ => ?_, fun (h : ¬ nI 110 = 110) => absurd rfl h⟩
          repeat refine hX _ _ _ _ _ _ _ _ _ _ _ _ _ _ rfl ?_
          refine Or.inl ⟨_, _, hx, ?_⟩
          repeat refine hX _ _ _ _ _ _ _ _ _ _ _ _ _ _ rfl ?_
          exact ⟨b2i_01 _, rfl, rfl⟩
      · rw [if_neg c1]
        by_cases c2 : tx b0 = 116
        · rw [if_pos c2]
          obtain ⟨r', t', hx, hp⟩ := c_readStatue S d sw c hm hR hb0' hsi hP hS (nI (tK tx L b0)) n
          refine ⟨r', t', ?_, hp⟩
          cases sw
          all_goals
            (refine exI rfl rfl ?_; intro X hX)
            repeat refine hX _ _ _ _ _ _ _ _ _ _ _ _ _ _ rfl ?_
            refine br_f (show ¬ ¬ nI (tK tx L b0) = nI 1 from fun h => h (congrArg nI hk)) ?_
            iterate 6 (refine hX _ _ _ _ _ _ _ _ _ _ _ _ _ _ rfl ?_)
            rw [show nI (tE tx L b0) - nI b0 = nI (tE tx L b0 - b0) from pk_sub (by omega)]
            iterate 1 (refine hX _ _ _ _ _ _ _ _ _ _ _ _ _ _ rfl ?_)
            refine br_t (show nI (tE tx L b0 - b0) = nI 1 from congrArg nI he) ?_
            repeat refine hX _ _ _ _ _ _ _ _ _ _ _ _ _ _ rfl ?_
            refine ⟨vp_in_nI (by omega) (by decide), ?_⟩
            rw [nI_clamp (by omega)]
            rw [htx, c2]
            iterate 1 (refine hX _ _ _ _ _ _ _ _ _ _ _ _ _ _ rfl ?_)
            refine ⟨fun (h : nI 116 = 110) => absurd h (by decide), fun _ => ⟨fun (h : nI 116 = 111) => absurd h (by decide), fun _ => ⟨fun (h : nI 116 = 112) => absurd h (by decide), fun _ => ⟨fun (h : nI 116 = 113) => absurd h (by decide), fun _ => ⟨fun (h : nI 116 = 114) => absurd h (by decide), fun _ => ⟨fun (h : nI 116 = 115) => absurd h (by decide), fun _ => ⟨fun _ => ?_, fun (h : ¬ nI 116 = 116) => absurd rfl h⟩⟩⟩⟩⟩⟩⟩
            repeat refine hX _ _ _ _ _ _ _ _ _ _ _ _ _ _ rfl ?_
            refine Or.inl ⟨_, _, hx, ?_⟩
            repeat refine hX _ _ _ _ _ _ _ _ _ _ _ _ _ _ rfl ?_
            exact ⟨b2i_01 _, rfl, rfl⟩
        · rw [if_neg c2]
          by_cases c3 : tx b0 = 112
          · rw [if_pos c3]
            obtain ⟨r', t', hx, hp⟩ := c_readOne S d sw c hm hR hb0' hsi hP hS (nI (tK tx L b0)) n
            refine ⟨r', t', ?_, hp⟩
            cases sw
            all_goals
              (refine exI rfl rfl ?_; intro X hX)
              repeat refine hX _ _ _ _ _ _ _ _ _ _ _ _ _ _ rfl ?_
              refine br_f (show ¬ ¬ nI (tK tx L b0) = nI 1 from fun h => h (congrArg nI hk)) ?_
              iterate 6 (refine hX _ _ _ _ _ _ _ _ _ _ _ _ _ _ rfl ?_)
              rw [show nI (tE tx L b0) - nI b0 = nI (tE tx L b0 - b0) from pk_sub (by omega)]
              iterate 1 (refine hX _ _ _ _ _ _ _ _ _ _ _ _ _ _ rfl ?_)
              refine br_t (show nI (tE tx L b0 - b0) = nI 1 from congrArg nI he) ?_
              repeat refine hX _ _ _ _ _ _ _ _ _ _ _ _ _ _ rfl ?_
              refine ⟨vp_in_nI (by omega) (by decide), ?_⟩
              rw [nI_clamp (by omega)]
              rw [htx, c3]
              iterate 1 (refine hX _ _ _ _ _ _ _ _ _ _ _ _ _ _ rfl ?_)
              refine ⟨fun (h : nI 112 = 110) => absurd h (by decide), fun _ => ⟨fun (h : nI 112 = 111) => absurd h (by decide), fun _ => ⟨fun _ => ?_, fun (h : ¬ nI 112 = 112) => absurd rfl h⟩⟩⟩
              repeat refine hX _ _ _ _ _ _ _ _ _ _ _ _ _ _ rfl ?_
              refine Or.inl ⟨_, _, hx, ?_⟩
              repeat refine hX _ _ _ _ _ _ _ _ _ _ _ _ _ _ rfl ?_
              exact ⟨b2i_01 _, rfl, rfl⟩
          · rw [if_neg c3]
            by_cases c4 : tx b0 = 118
            · rw [if_pos c4]
              obtain ⟨r', t', hx, hp⟩ := c_readSight S d sw c hm hR hb0' hsi hS (nI (tK tx L b0)) n
              refine ⟨r', t', ?_, hp⟩
              cases sw
              all_goals
                (refine exI rfl rfl ?_; intro X hX)
                repeat refine hX _ _ _ _ _ _ _ _ _ _ _ _ _ _ rfl ?_
                refine br_f (show ¬ ¬ nI (tK tx L b0) = nI 1 from fun h => h (congrArg nI hk)) ?_
                iterate 6 (refine hX _ _ _ _ _ _ _ _ _ _ _ _ _ _ rfl ?_)
                rw [show nI (tE tx L b0) - nI b0 = nI (tE tx L b0 - b0) from pk_sub (by omega)]
                iterate 1 (refine hX _ _ _ _ _ _ _ _ _ _ _ _ _ _ rfl ?_)
                refine br_t (show nI (tE tx L b0 - b0) = nI 1 from congrArg nI he) ?_
                repeat refine hX _ _ _ _ _ _ _ _ _ _ _ _ _ _ rfl ?_
                refine ⟨vp_in_nI (by omega) (by decide), ?_⟩
                rw [nI_clamp (by omega)]
                rw [htx, c4]
                iterate 1 (refine hX _ _ _ _ _ _ _ _ _ _ _ _ _ _ rfl ?_)
                refine ⟨fun (h : nI 118 = 110) => absurd h (by decide), fun _ => ⟨fun (h : nI 118 = 111) => absurd h (by decide), fun _ => ⟨fun (h : nI 118 = 112) => absurd h (by decide), fun _ => ⟨fun (h : nI 118 = 113) => absurd h (by decide), fun _ => ⟨fun (h : nI 118 = 114) => absurd h (by decide), fun _ => ⟨fun (h : nI 118 = 115) => absurd h (by decide), fun _ => ⟨fun (h : nI 118 = 116) => absurd h (by decide), fun _ => ⟨fun (h : nI 118 = 117) => absurd h (by decide), fun _ => ⟨fun _ => ?_, fun (h : ¬ nI 118 = 118) => absurd rfl h⟩⟩⟩⟩⟩⟩⟩⟩⟩
                repeat refine hX _ _ _ _ _ _ _ _ _ _ _ _ _ _ rfl ?_
                refine Or.inl ⟨_, _, hx, ?_⟩
                repeat refine hX _ _ _ _ _ _ _ _ _ _ _ _ _ _ rfl ?_
                exact ⟨b2i_01 _, rfl, rfl⟩
            · rw [if_neg c4]
              refine ⟨rX (cRd c) (nI b0) (nI (tE tx L b0)) (nI (tK tx L b0)) n, cSp c, ?_, ⟨rfl, rfl, rfl, rfl, hb0'⟩⟩
              cases sw
              all_goals
                (refine exI rfl rfl ?_; intro X hX)
                repeat refine hX _ _ _ _ _ _ _ _ _ _ _ _ _ _ rfl ?_
                refine br_f (show ¬ ¬ nI (tK tx L b0) = nI 1 from fun h => h (congrArg nI hk)) ?_
                iterate 6 (refine hX _ _ _ _ _ _ _ _ _ _ _ _ _ _ rfl ?_)
                rw [show nI (tE tx L b0) - nI b0 = nI (tE tx L b0 - b0) from pk_sub (by omega)]
                iterate 1 (refine hX _ _ _ _ _ _ _ _ _ _ _ _ _ _ rfl ?_)
                refine br_t (show nI (tE tx L b0 - b0) = nI 1 from congrArg nI he) ?_
                repeat refine hX _ _ _ _ _ _ _ _ _ _ _ _ _ _ rfl ?_
                refine ⟨vp_in_nI (by omega) (by decide), ?_⟩
                rw [nI_clamp (by omega)]
                rw [htx]
                iterate 1 (refine hX _ _ _ _ _ _ _ _ _ _ _ _ _ _ rfl ?_)
                refine ⟨fun h => absurd ((nI_eq (b := 110) (by omega) (by decide)).mp h) c1, fun _ => ⟨fun _ => ?_, fun _ => ⟨fun h => absurd ((nI_eq (b := 112) (by omega) (by decide)).mp h) c3, fun _ => ⟨fun _ => ?_, fun _ => ⟨fun _ => ?_, fun _ => ⟨fun _ => ?_, fun _ => ⟨fun h => absurd ((nI_eq (b := 116) (by omega) (by decide)).mp h) c2, fun _ => ⟨fun _ => ?_, fun _ => ⟨fun h => absurd ((nI_eq (b := 118) (by omega) (by decide)).mp h) c4, fun _ => ?_⟩⟩⟩⟩⟩⟩⟩⟩⟩
                all_goals
                  repeat refine hX _ _ _ _ _ _ _ _ _ _ _ _ _ _ rfl ?_
                  exact ⟨Or.inl rfl, rfl, rfl⟩
    · rw [decide_eq_false he]
      refine ⟨rX (cRd c) (nI b0) (nI (tE tx L b0)) (nI (tK tx L b0)) n, cSp c, ?_, ⟨rfl, rfl, rfl, rfl, hb0'⟩⟩
      cases sw
      all_goals
        (refine exI rfl rfl ?_; intro X hX)
        repeat refine hX _ _ _ _ _ _ _ _ _ _ _ _ _ _ rfl ?_
        refine br_f (show ¬ ¬ nI (tK tx L b0) = nI 1 from fun h => h (congrArg nI hk)) ?_
        iterate 6 (refine hX _ _ _ _ _ _ _ _ _ _ _ _ _ _ rfl ?_)
        rw [show nI (tE tx L b0) - nI b0 = nI (tE tx L b0 - b0) from pk_sub (by omega)]
        iterate 1 (refine hX _ _ _ _ _ _ _ _ _ _ _ _ _ _ rfl ?_)
        refine br_f (show ¬ nI (tE tx L b0 - b0) = nI 1 from fun h => he ((nI_eq (by omega) (by decide)).mp h)) ?_
        repeat refine hX _ _ _ _ _ _ _ _ _ _ _ _ _ _ rfl ?_
        exact ⟨Or.inl rfl, rfl, rfl⟩
  · rw [decide_eq_false hk, Bool.false_and]
    refine ⟨rX (cRd c) (nI b0) (nI (tE tx L b0)) (nI (tK tx L b0)) n, cSp c, ?_, ⟨rfl, rfl, rfl, rfl, hb0'⟩⟩
    cases sw
    all_goals
      (refine exI rfl rfl ?_; intro X hX)
      repeat refine hX _ _ _ _ _ _ _ _ _ _ _ _ _ _ rfl ?_
      refine br_t (show ¬ nI (tK tx L b0) = nI 1 from fun h => hk ((nI_eq (by omega) (by decide)).mp h)) ?_
      repeat refine hX _ _ _ _ _ _ _ _ _ _ _ _ _ _ rfl ?_
      exact ⟨Or.inl rfl, rfl, rfl⟩
