theorem c_readOne (S : zS) (d : Nat) (sw : Bool) (c : cS) (hm : List zC) {tx : aF} {L b0 : Nat} {T : aT} {ya : aF} {si : Bool} (hR : RR (cRd c) tx L) (hb0 : b0 ≤ L) (hsi : rSightTold (cRd c) = b2i si) (hP : PWf T ya) (hS : SRel (cSp c) T ya) (k n : Int32) : ∃ r' t', Ex S (d + 4) 0 0 14 [.ref 1] (hC sw (s_cRd c (rX (cRd c) (nI b0) (nI (tE tx L b0)) k n)), hm) (some (.int (b2i (isR (pOne tx L b0 T ya si))))) (hC sw (s_cSp (s_cRd c r') t'), hm) ∧ CPost tx L c r' t' (pOne tx L b0 T ya si) := by
  have hL := hR.1
  have hnp := hP.1.2.2.2.2.1
  have hny := hP.1.2.1
  have hny2 := hP.1.1
  have e1 : nI (aNy T) - 1 = nI (aNy T - 1) := pk_sub (b := 1) (by omega)
  have hb1 := (nb_le tx hb0).2
  have hb2 := (nb_le tx hb1).2
  have hb3 := (nb_le tx hb2).2
  have hb4 := (nb_le tx hb3).2
  have hb5 := (nb_le tx hb4).2
  have hn1 := n_num S d sw c hm hR hb0 (nI b0) k n (lo := 0) (hi := aNy T - 1) (by decide) (by omega)
  unfold pOne
  by_cases h6 : aNp T = 6
  · rw [decide_eq_true h6]
    refine ⟨rX (cRd c) (nI b0) (nI (tE tx L b0)) k n, cSp c, ?_, ⟨rfl, rfl, rfl, rfl, hb0⟩⟩
    cases sw
    all_goals
      (refine exI rfl rfl ?_; intro X hX)
      repeat refine hX _ _ _ _ _ _ _ _ _ _ _ _ _ _ rfl ?_
      refine br_t (show nI 6 ≤ tPeople (cSp c) from by rw [hS.2.2.2.1]; exact nI_le (by omega) (by omega)) ?_
      repeat refine hX _ _ _ _ _ _ _ _ _ _ _ _ _ _ rfl ?_
      exact ⟨Or.inl rfl, rfl, rfl⟩
  · rw [decide_eq_false h6]
    simp only [cond_false]
    generalize hB1 : nb tx L b0 = b1 at *
    generalize hB2 : nb tx L b1 = b2 at *
    generalize hB3 : nb tx L b2 = b3 at *
    generalize hB4 : nb tx L b3 = b4 at *
    have hn2 := n_num S d sw c hm hR hb1 (nI b1) (nI (tK tx L b1)) (nI (tN tx L b1)) (lo := 1) (hi := 9) (by decide) (by decide)
    have hn3 := n_num S d sw c hm hR hb2 (nI b2) (nI (tK tx L b2)) (nI (tN tx L b2)) (lo := 0) (hi := 3) (by decide) (by decide)
    have hi4 := n_ins S d sw c hm hR hb3 (nI b3) (nI (tK tx L b3)) (nI (tN tx L b3)) (most := 6) (by decide)
    rw [hB2] at hn2
    rw [hB3] at hn3
    rw [hB4] at hi4
    cases hg1 : rng tx L b1 0 (aNy T - 1) with
    | false =>
      rw [hg1] at hn1
      refine ⟨rX (cRd c) (nI b1) (nI (tE tx L b1)) (nI (tK tx L b1)) (nI (tN tx L b1)), cSp c, ?_, ⟨rfl, rfl, rfl, rfl, hb1⟩⟩
      cases sw
      all_goals
        (refine exI rfl rfl ?_; intro X hX)
        repeat refine hX _ _ _ _ _ _ _ _ _ _ _ _ _ _ rfl ?_
        refine br_f (show ¬ nI 6 ≤ tPeople (cSp c) from by rw [hS.2.2.2.1]; exact nI_ge (by omega) (by omega)) ?_
        repeat refine hX _ _ _ _ _ _ _ _ _ _ _ _ _ _ rfl ?_
        rw [show tYards (cSp c) - 1 = nI (aNy T - 1) from by rw [hS.1, e1]]
        refine Or.inl ⟨_, _, hn1, ?_⟩
        repeat refine hX _ _ _ _ _ _ _ _ _ _ _ _ _ _ rfl ?_
        refine br_f (show ¬ ¬ b2i false = 0 by decide) ?_
        repeat refine hX _ _ _ _ _ _ _ _ _ _ _ _ _ _ rfl ?_
        exact ⟨Or.inl rfl, rfl, rfl⟩
    | true =>
      rw [hg1] at hn1
      simp only [cond_true]
      cases hg2 : rng tx L b2 1 9 with
      | false =>
        rw [hg2] at hn2
        refine ⟨rX (cRd c) (nI b2) (nI (tE tx L b2)) (nI (tK tx L b2)) (nI (tN tx L b2)), cSp c, ?_, ⟨rfl, rfl, rfl, rfl, hb2⟩⟩
        cases sw
        all_goals
          (refine exI rfl rfl ?_; intro X hX)
          repeat refine hX _ _ _ _ _ _ _ _ _ _ _ _ _ _ rfl ?_
          refine br_f (show ¬ nI 6 ≤ tPeople (cSp c) from by rw [hS.2.2.2.1]; exact nI_ge (by omega) (by omega)) ?_
          repeat refine hX _ _ _ _ _ _ _ _ _ _ _ _ _ _ rfl ?_
          rw [show tYards (cSp c) - 1 = nI (aNy T - 1) from by rw [hS.1, e1]]
          refine Or.inl ⟨_, _, hn1, ?_⟩
          repeat refine hX _ _ _ _ _ _ _ _ _ _ _ _ _ _ rfl ?_
          refine br_t (show ¬ b2i true = 0 by decide) ?_
          repeat refine hX _ _ _ _ _ _ _ _ _ _ _ _ _ _ rfl ?_
          refine Or.inl ⟨_, _, hn2, ?_⟩
          repeat refine hX _ _ _ _ _ _ _ _ _ _ _ _ _ _ rfl ?_
          refine br_f (show ¬ ¬ b2i false = 0 by decide) ?_
          repeat refine hX _ _ _ _ _ _ _ _ _ _ _ _ _ _ rfl ?_
          exact ⟨Or.inl rfl, rfl, rfl⟩
      | true =>
        rw [hg2] at hn2
        simp only [cond_true]
        cases hg3 : rng tx L b3 0 3 with
        | false =>
          rw [hg3] at hn3
          refine ⟨rX (cRd c) (nI b3) (nI (tE tx L b3)) (nI (tK tx L b3)) (nI (tN tx L b3)), cSp c, ?_, ⟨rfl, rfl, rfl, rfl, hb3⟩⟩
          cases sw
          all_goals
            (refine exI rfl rfl ?_; intro X hX)
            repeat refine hX _ _ _ _ _ _ _ _ _ _ _ _ _ _ rfl ?_
            refine br_f (show ¬ nI 6 ≤ tPeople (cSp c) from by rw [hS.2.2.2.1]; exact nI_ge (by omega) (by omega)) ?_
            repeat refine hX _ _ _ _ _ _ _ _ _ _ _ _ _ _ rfl ?_
            rw [show tYards (cSp c) - 1 = nI (aNy T - 1) from by rw [hS.1, e1]]
            refine Or.inl ⟨_, _, hn1, ?_⟩
            repeat refine hX _ _ _ _ _ _ _ _ _ _ _ _ _ _ rfl ?_
            refine br_t (show ¬ b2i true = 0 by decide) ?_
            repeat refine hX _ _ _ _ _ _ _ _ _ _ _ _ _ _ rfl ?_
            refine Or.inl ⟨_, _, hn2, ?_⟩
            repeat refine hX _ _ _ _ _ _ _ _ _ _ _ _ _ _ rfl ?_
            refine br_t (show ¬ b2i true = 0 by decide) ?_
            repeat refine hX _ _ _ _ _ _ _ _ _ _ _ _ _ _ rfl ?_
            refine Or.inl ⟨_, _, hn3, ?_⟩
            repeat refine hX _ _ _ _ _ _ _ _ _ _ _ _ _ _ rfl ?_
            refine br_f (show ¬ ¬ b2i false = 0 by decide) ?_
            repeat refine hX _ _ _ _ _ _ _ _ _ _ _ _ _ _ rfl ?_
            exact ⟨Or.inl rfl, rfl, rfl⟩
        | true =>
          rw [hg3] at hn3
          simp only [cond_true]
          cases hg4 : tI tx L b4 6 with
          | false =>
            rw [hg4] at hi4
            refine ⟨rX (cRd c) (nI b4) (nI (tE tx L b4)) (nI (tK tx L b4)) (nI (tN tx L b3)), cSp c, ?_, ⟨rfl, rfl, rfl, rfl, hb4⟩⟩
            cases sw
            all_goals
              (refine exI rfl rfl ?_; intro X hX)
              repeat refine hX _ _ _ _ _ _ _ _ _ _ _ _ _ _ rfl ?_
              refine br_f (show ¬ nI 6 ≤ tPeople (cSp c) from by rw [hS.2.2.2.1]; exact nI_ge (by omega) (by omega)) ?_
              repeat refine hX _ _ _ _ _ _ _ _ _ _ _ _ _ _ rfl ?_
              rw [show tYards (cSp c) - 1 = nI (aNy T - 1) from by rw [hS.1, e1]]
              refine Or.inl ⟨_, _, hn1, ?_⟩
              repeat refine hX _ _ _ _ _ _ _ _ _ _ _ _ _ _ rfl ?_
              refine br_t (show ¬ b2i true = 0 by decide) ?_
              repeat refine hX _ _ _ _ _ _ _ _ _ _ _ _ _ _ rfl ?_
              refine Or.inl ⟨_, _, hn2, ?_⟩
              repeat refine hX _ _ _ _ _ _ _ _ _ _ _ _ _ _ rfl ?_
              refine br_t (show ¬ b2i true = 0 by decide) ?_
              repeat refine hX _ _ _ _ _ _ _ _ _ _ _ _ _ _ rfl ?_
              refine Or.inl ⟨_, _, hn3, ?_⟩
              repeat refine hX _ _ _ _ _ _ _ _ _ _ _ _ _ _ rfl ?_
              refine br_t (show ¬ b2i true = 0 by decide) ?_
              repeat refine hX _ _ _ _ _ _ _ _ _ _ _ _ _ _ rfl ?_
              refine Or.inl ⟨_, _, hi4, ?_⟩
              repeat refine hX _ _ _ _ _ _ _ _ _ _ _ _ _ _ rfl ?_
              refine br_f (show ¬ ¬ b2i false = 0 by decide) ?_
              repeat refine hX _ _ _ _ _ _ _ _ _ _ _ _ _ _ rfl ?_
              exact ⟨Or.inl rfl, rfl, rfl⟩
          | true =>
            rw [hg4] at hi4
            simp only [cond_true]
            have hio := c_insultsOf S (d + 2) sw (s_cRd c (rX (cRd c) (nI b4) (nI (tE tx L b4)) (nI (tK tx L b4)) (nI (tN tx L b3)))) hm (tx := tx) (L := L) (b := b4) hR rfl rfl hg4
            have hadd := c_addOne S (d + 2) sw (s_cRd c (rX (cRd c) (nI b4) (nI (tE tx L b4)) (nI (tK tx L b4)) (nI (tN tx L b3)))) hm (n := aNp T) hS.2.2.2.1 (by omega) (nI (tN tx L b1)) (nI (tN tx L b2)) (nI (tN tx L b3)) (nI (tS tx L b4))
            have hstp := n_stop S d sw (s_cSp c (qOne (cSp c) (aNp T) (nI (aNp T + 1)) (nI (tN tx L b1)) (nI (tN tx L b2)) (nI (tN tx L b3)) (nI (tS tx L b4)))) hm hR hb4 (nI b4) (nI (tK tx L b4)) (nI (tN tx L b3))
            simp only [pEnd_is]
            refine ⟨_, _, ?_, pEnd_post (tx := tx) (k := nI (tK tx L (nb tx L b4))) (n := nI (tN tx L b3)) hb5 (SRel_one hS (tN tx L b1) (tN tx L b2) (tN tx L b3) (tS tx L b4)) (cRd c) rfl rfl rfl hsi⟩
            cases sw
            all_goals
              (refine exI rfl rfl ?_; intro X hX)
              repeat refine hX _ _ _ _ _ _ _ _ _ _ _ _ _ _ rfl ?_
              refine br_f (show ¬ nI 6 ≤ tPeople (cSp c) from by rw [hS.2.2.2.1]; exact nI_ge (by omega) (by omega)) ?_
              repeat refine hX _ _ _ _ _ _ _ _ _ _ _ _ _ _ rfl ?_
              rw [show tYards (cSp c) - 1 = nI (aNy T - 1) from by rw [hS.1, e1]]
              refine Or.inl ⟨_, _, hn1, ?_⟩
              repeat refine hX _ _ _ _ _ _ _ _ _ _ _ _ _ _ rfl ?_
              refine br_t (show ¬ b2i true = 0 by decide) ?_
              repeat refine hX _ _ _ _ _ _ _ _ _ _ _ _ _ _ rfl ?_
              refine Or.inl ⟨_, _, hn2, ?_⟩
              repeat refine hX _ _ _ _ _ _ _ _ _ _ _ _ _ _ rfl ?_
              refine br_t (show ¬ b2i true = 0 by decide) ?_
              repeat refine hX _ _ _ _ _ _ _ _ _ _ _ _ _ _ rfl ?_
              refine Or.inl ⟨_, _, hn3, ?_⟩
              repeat refine hX _ _ _ _ _ _ _ _ _ _ _ _ _ _ rfl ?_
              refine br_t (show ¬ b2i true = 0 by decide) ?_
              repeat refine hX _ _ _ _ _ _ _ _ _ _ _ _ _ _ rfl ?_
              refine Or.inl ⟨_, _, hi4, ?_⟩
              repeat refine hX _ _ _ _ _ _ _ _ _ _ _ _ _ _ rfl ?_
              refine br_t (show ¬ b2i true = 0 by decide) ?_
              repeat refine hX _ _ _ _ _ _ _ _ _ _ _ _ _ _ rfl ?_
              refine Or.inl ⟨_, _, hio, ?_⟩
              repeat refine hX _ _ _ _ _ _ _ _ _ _ _ _ _ _ rfl ?_
              refine Or.inl ⟨_, _, hadd, ?_⟩
              repeat refine hX _ _ _ _ _ _ _ _ _ _ _ _ _ _ rfl ?_
              refine Or.inl ⟨_, _, hstp, ?_⟩
              repeat refine hX _ _ _ _ _ _ _ _ _ _ _ _ _ _ rfl ?_
              exact ⟨b2i_01 _, rfl, rfl⟩
/-! the class: the town read is a town -/
theorem rng_of {tx : aF} {L b lo hi : Nat} (h : rng tx L b lo hi = true) : lo ≤ tN tx L b ∧ tN tx L b ≤ hi := by
  unfold rng at h
  rw [Bool.and_eq_true, decide_eq_true_eq, decide_eq_true_eq] at h
  exact h
theorem taken_no {ya : aF} {y : Nat} : ∀ n, taken ya y n = false → ∀ j, j < n → ya j ≠ y
  | 0, _, j, h => by omega
  | n + 1, h, j, hj => by
    rw [taken, Bool.or_eq_false_iff, decide_eq_false_iff_not] at h
    by_cases he : j = n
    · rw [he]; exact h.2
    · exact taken_no n h.1 j (by omega)
theorem pEnd_inr {tx : aF} {L b : Nat} {T T' : aT} {ya ya' : aF} {si si' : Bool} {bl : Nat} (h : pEnd tx L b T ya si = .inr (bl, T', ya', si')) : T = T' ∧ ya = ya' := by
  unfold pEnd at h
  cases hk : decide (tK tx L b = 3) with
  | false => rw [hk] at h; cases h
  | true => rw [hk] at h; cases h; exact ⟨rfl, rfl⟩
theorem pSta_wf {tx : aF} {L b0 : Nat} {T T' : aT} {ya ya' : aF} {si si' : Bool} {bl : Nat} (hP : PWf T ya) (h : pSta tx L b0 T ya si = .inr (bl, T', ya', si')) : PWf T' ya' := by
  unfold pSta at h
  cases h1 : decide (aNs T = 6) with
  | true => rw [h1] at h; cases h
  | false =>
    rw [h1] at h
    simp only [cond_false] at h
    generalize nb tx L b0 = b1 at *
    generalize nb tx L b1 = b2 at *
    generalize nb tx L b2 = b3 at *
    cases h2 : (rng tx L b1 0 (aNy T - 1) && !taken ya (tN tx L b1) (aNs T)) with
    | false => rw [h2] at h; cases h
    | true =>
      rw [h2] at h
      simp only [cond_true] at h
      cases h3 : rng tx L b2 1 30 with
      | false => rw [h3] at h; cases h
      | true =>
        rw [h3] at h
        simp only [cond_true] at h
        cases h4 : tI tx L b3 1 with
        | false => rw [h4] at h; cases h
        | true =>
          rw [h4] at h
          simp only [cond_true] at h
          obtain ⟨rfl, rfl⟩ := pEnd_inr h
          rw [Bool.and_eq_true, Bool.not_eq_true'] at h2
          have g1 := rng_of h2.1
          have g2 := rng_of h3
          have g3 := taken_no _ h2.2
          obtain ⟨hbl, -, hat⟩ := tI_at h4
          have hlt3 := (tE_le tx (Nat.le_of_lt hbl)).2.2 hbl
          have d3 := hat b3 (Nat.le_refl _) hlt3
          have h1 : ¬ aNs T = 6 := of_decide_eq_false h1
          obtain ⟨⟨w1, w2, w3, w4, w5, w6, w7⟩, y1, y2⟩ := hP
          refine ⟨⟨w1, w2, w3, (show aNs T + 1 ≤ 6 by omega), w5, fun j hj => ?_, w7⟩, fun j hj => ?_, fun j hj k hk he => ?_⟩
          · have hj : j < aNs T + 1 := hj
            show 1 ≤ aup (aWe T) (aNs T) (tN tx L b2) j ∧ aup (aWe T) (aNs T) (tN tx L b2) j ≤ 30 ∧ aup (aIn T) (aNs T) (tx b3 - 97) j < 6
            by_cases hjn : j = aNs T
            · rw [hjn, aup_s, aup_s]; omega
            · rw [aup_n _ _ hjn, aup_n _ _ hjn]; exact w6 j (by omega)
          · have hj : j < aNs T + 1 := hj
            show aup ya (aNs T) (tN tx L b1) j < aNy T
            by_cases hjn : j = aNs T
            · rw [hjn, aup_s]; omega
            · rw [aup_n _ _ hjn]; exact y1 j (by omega)
          · have hj : j < aNs T + 1 := hj
            have hk : k < aNs T + 1 := hk
            by_cases hjn : j = aNs T
            · by_cases hkn : k = aNs T
              · rw [hjn, hkn]
              · rw [hjn, aup_s, aup_n _ _ hkn] at he
                exact absurd he.symm (g3 k (by omega))
            · by_cases hkn : k = aNs T
              · rw [hkn, aup_s, aup_n _ _ hjn] at he
                exact absurd he (g3 j (by omega))
              · rw [aup_n _ _ hjn, aup_n _ _ hkn] at he
                exact y2 j (by omega) k (by omega) he
theorem pOne_wf {tx : aF} {L b0 : Nat} {T T' : aT} {ya ya' : aF} {si si' : Bool} {bl : Nat} (hP : PWf T ya) (h : pOne tx L b0 T ya si = .inr (bl, T', ya', si')) : PWf T' ya' := by
  unfold pOne at h
  cases h1 : decide (aNp T = 6) with
  | true => rw [h1] at h; cases h
  | false =>
    rw [h1] at h
    simp only [cond_false] at h
    generalize nb tx L b0 = b1 at *
    generalize nb tx L b1 = b2 at *
    generalize nb tx L b2 = b3 at *
    generalize nb tx L b3 = b4 at *
    cases h2 : rng tx L b1 0 (aNy T - 1) with
    | false => rw [h2] at h; cases h
    | true =>
      rw [h2] at h
      simp only [cond_true] at h
      cases h3 : rng tx L b2 1 9 with
      | false => rw [h3] at h; cases h
      | true =>
        rw [h3] at h
        simp only [cond_true] at h
        cases h4 : rng tx L b3 0 3 with
        | false => rw [h4] at h; cases h
        | true =>
          rw [h4] at h
          simp only [cond_true] at h
          cases h5 : tI tx L b4 6 with
          | false => rw [h5] at h; cases h
          | true =>
            rw [h5] at h
            simp only [cond_true] at h
            obtain ⟨rfl, rfl⟩ := pEnd_inr h
            have g1 := rng_of h2
            have g2 := rng_of h3
            have g3 := rng_of h4
            have g4 := tS_lt h5
            have h1 : ¬ aNp T = 6 := of_decide_eq_false h1
            obtain ⟨⟨w1, w2, w3, w4, w5, w6, w7⟩, y1, y2⟩ := hP
            refine ⟨⟨w1, w2, w3, w4, (show aNp T + 1 ≤ 6 by omega), w6, fun j hj => ?_⟩, y1, y2⟩
            have hj : j < aNp T + 1 := hj
            show aup (aHo T) (aNp T) (tN tx L b1) j < aNy T ∧ 1 ≤ aup (aSt T) (aNp T) (tN tx L b2) j ∧ aup (aSt T) (aNp T) (tN tx L b2) j ≤ 9 ∧ aup (aCr T) (aNp T) (tN tx L b3) j ≤ 3 ∧ aup (aWg T) (aNp T) (tS tx L b4) j < 64
            by_cases hjn : j = aNp T
            · rw [hjn, aup_s, aup_s, aup_s, aup_s]; omega
            · rw [aup_n _ _ hjn, aup_n _ _ hjn, aup_n _ _ hjn, aup_n _ _ hjn]; exact w7 j (by omega)
theorem pItm_wf {tx : aF} {L b0 it : Nat} {T T' : aT} {ya ya' : aF} {si si' : Bool} {bl : Nat} (hP : PWf T ya) (h0 : it = 0 → aNs T = 0 ∧ aNp T = 0) (h : pItm tx L b0 T ya si it = .inr (bl, T', ya', si')) : PWf T' ya' := by
  unfold pItm at h
  cases h1 : (decide (tK tx L b0 = 1) && decide (tE tx L b0 - b0 = 1)) with
  | false => rw [h1] at h; cases h
  | true =>
    rw [h1] at h
    simp only [cond_true] at h
    by_cases c1 : tx b0 = 110
    · rw [if_pos c1] at h
      unfold pYar at h
      by_cases hi : it = 0
      · rw [decide_eq_true hi] at h
        simp only [cond_true] at h
        obtain ⟨hs, hp⟩ := h0 hi
        cases h2 : rng tx L (nb tx L b0) 2 10 with
        | false => rw [h2] at h; cases h
        | true =>
          rw [h2] at h
          simp only [cond_true] at h
          obtain ⟨rfl, rfl⟩ := pEnd_inr h
          have g := rng_of h2
          obtain ⟨⟨w1, w2, w3, w4, w5, w6, w7⟩, y1, y2⟩ := hP
          refine ⟨⟨g.1, g.2, w3, w4, w5, w6, fun j hj => ?_⟩, fun j hj => ?_, y2⟩
          · have hj : j < aNp T := hj
            omega
          · have hj : j < aNs T := hj
            omega
      · rw [decide_eq_false hi] at h
        cases h
    · rw [if_neg c1] at h
      by_cases c2 : tx b0 = 116
      · rw [if_pos c2] at h
        exact pSta_wf hP h
      · rw [if_neg c2] at h
        by_cases c3 : tx b0 = 112
        · rw [if_pos c3] at h
          exact pOne_wf hP h
        · rw [if_neg c3] at h
          by_cases c4 : tx b0 = 118
          · rw [if_pos c4] at h
            unfold pSig at h
            cases si with
            | true => cases h
            | false =>
              simp only [cond_false] at h
              cases h2 : rng tx L (nb tx L b0) 0 3 with
              | false => rw [h2] at h; cases h
              | true =>
                rw [h2] at h
                simp only [cond_true] at h
                obtain ⟨rfl, rfl⟩ := pEnd_inr h
                have g := rng_of h2
                obtain ⟨⟨w1, w2, w3, w4, w5, w6, w7⟩, y1, y2⟩ := hP
                exact ⟨⟨w1, w2, g.2, w4, w5, w6, w7⟩, y1, y2⟩
          · rw [if_neg c4] at h
            cases h
