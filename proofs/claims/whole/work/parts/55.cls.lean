theorem SRel_sta {t : cT} {T : aT} {ya : aF} (h : SRel t T ya) (y w i : Nat) : SRel (qSta t (aNs T) (nI (aNs T + 1)) (nI y) (nI w) (nI i)) (tSta T w i) (aup ya (aNs T) y) := by
  refine ⟨h.1, h.2.1, rfl, h.2.2.2.1, fun j hj => ?_, h.2.2.2.2.2⟩
  have hj : j < aNs T + 1 := hj
  show upd (tStands t) (aNs T) (nI y) j = nI (aup ya (aNs T) y j) ∧ upd (tWeight t) (aNs T) (nI w) j = nI (aup (aWe T) (aNs T) w j) ∧ upd (tInsult t) (aNs T) (nI i) j = nI (aup (aIn T) (aNs T) i j)
  by_cases he : j = aNs T
  · rw [he, pk_us, pk_us, pk_us, aup_s, aup_s, aup_s]
    exact ⟨rfl, rfl, rfl⟩
  · rw [pk_un he, pk_un he, pk_un he, aup_n _ _ he, aup_n _ _ he, aup_n _ _ he]
    exact h.2.2.2.2.1 j (by omega)
theorem SRel_one {t : cT} {T : aT} {ya : aF} (h : SRel t T ya) (ho st cr wg : Nat) : SRel (qOne t (aNp T) (nI (aNp T + 1)) (nI ho) (nI st) (nI cr) (nI wg)) (tOne T ho st cr wg) ya := by
  refine ⟨h.1, h.2.1, h.2.2.1, rfl, h.2.2.2.2.1, fun j hj => ?_⟩
  have hj : j < aNp T + 1 := hj
  show upd (tHome t) (aNp T) (nI ho) j = nI (aup (aHo T) (aNp T) ho j) ∧ upd (tStrong t) (aNp T) (nI st) j = nI (aup (aSt T) (aNp T) st j) ∧ upd (tCredit t) (aNp T) (nI cr) j = nI (aup (aCr T) (aNp T) cr j) ∧ upd (tWrongs t) (aNp T) (nI wg) j = nI (aup (aWg T) (aNp T) wg j)
  by_cases he : j = aNp T
  · rw [he, pk_us, pk_us, pk_us, pk_us, aup_s, aup_s, aup_s, aup_s]
    exact ⟨rfl, rfl, rfl, rfl⟩
  · rw [pk_un he, pk_un he, pk_un he, pk_un he, aup_n _ _ he, aup_n _ _ he, aup_n _ _ he, aup_n _ _ he]
    exact h.2.2.2.2.2 j (by omega)
theorem c_readStatue (S : zS) (d : Nat) (sw : Bool) (c : cS) (hm : List zC) {tx : aF} {L b0 : Nat} {T : aT} {ya : aF} {si : Bool} (hR : RR (cRd c) tx L) (hb0 : b0 ≤ L) (hsi : rSightTold (cRd c) = b2i si) (hP : PWf T ya) (hS : SRel (cSp c) T ya) (k n : Int32) : ∃ r' t', Ex S (d + 4) 0 0 13 [.ref 1] (hC sw (s_cRd c (rX (cRd c) (nI b0) (nI (tE tx L b0)) k n)), hm) (some (.int (b2i (isR (pSta tx L b0 T ya si))))) (hC sw (s_cSp (s_cRd c r') t'), hm) ∧ CPost tx L c r' t' (pSta tx L b0 T ya si) := by
  have hL := hR.1
  have hns := hP.1.2.2.2.1
  have hny := hP.1.2.1
  have hny2 := hP.1.1
  have e1 : nI (aNy T) - 1 = nI (aNy T - 1) := pk_sub (b := 1) (by omega)
  have hb1 := (nb_le tx hb0).2
  have hb2 := (nb_le tx hb1).2
  have hb3 := (nb_le tx hb2).2
  have hb4 := (nb_le tx hb3).2
  have hn1 := n_num S d sw c hm hR hb0 (nI b0) k n (lo := 0) (hi := aNy T - 1) (by decide) (by omega)
  have htn := tN_le tx L (nb tx L b0)
  have htk := c_isTaken S (d + 2) sw (s_cRd c (rX (cRd c) (nI (nb tx L b0)) (nI (tE tx L (nb tx L b0))) (nI (tK tx L (nb tx L b0))) (nI (tN tx L (nb tx L b0))))) hm hP.1 hP.2.1 hS (y := tN tx L (nb tx L b0)) (by omega)
  unfold pSta
  by_cases h6 : aNs T = 6
  · rw [decide_eq_true h6]
    refine ⟨rX (cRd c) (nI b0) (nI (tE tx L b0)) k n, cSp c, ?_, ⟨rfl, rfl, rfl, rfl, hb0⟩⟩
    cases sw
    all_goals
      (refine exI rfl rfl ?_; intro X hX)
      repeat refine hX _ _ _ _ _ _ _ _ _ _ _ _ _ _ rfl ?_
      refine br_t (show nI 6 ≤ tStatues (cSp c) from by rw [hS.2.2.1]; exact nI_le (by omega) (by omega)) ?_
      repeat refine hX _ _ _ _ _ _ _ _ _ _ _ _ _ _ rfl ?_
      exact ⟨Or.inl rfl, rfl, rfl⟩
  · rw [decide_eq_false h6]
    simp only [cond_false]
    cases hg1 : rng tx L (nb tx L b0) 0 (aNy T - 1) with
    | false =>
      rw [hg1] at hn1
      refine ⟨rX (cRd c) (nI (nb tx L b0)) (nI (tE tx L (nb tx L b0))) (nI (tK tx L (nb tx L b0))) (nI (tN tx L (nb tx L b0))), cSp c, ?_, ⟨rfl, rfl, rfl, rfl, hb1⟩⟩
      cases sw
      all_goals
        (refine exI rfl rfl ?_; intro X hX)
        repeat refine hX _ _ _ _ _ _ _ _ _ _ _ _ _ _ rfl ?_
        refine br_f (show ¬ nI 6 ≤ tStatues (cSp c) from by rw [hS.2.2.1]; exact nI_ge (by omega) (by omega)) ?_
        repeat refine hX _ _ _ _ _ _ _ _ _ _ _ _ _ _ rfl ?_
        rw [show tYards (cSp c) - 1 = nI (aNy T - 1) from by rw [hS.1, e1]]
        refine Or.inl ⟨_, _, hn1, ?_⟩
        repeat refine hX _ _ _ _ _ _ _ _ _ _ _ _ _ _ rfl ?_
        refine br_t (show b2i false = 0 from rfl) ?_
        repeat refine hX _ _ _ _ _ _ _ _ _ _ _ _ _ _ rfl ?_
        exact ⟨Or.inl rfl, rfl, rfl⟩
    | true =>
      rw [hg1] at hn1
      simp only [Bool.true_and]
      cases hg2 : taken ya (tN tx L (nb tx L b0)) (aNs T) with
      | true =>
        rw [hg2] at htk
        refine ⟨rX (cRd c) (nI (nb tx L b0)) (nI (tE tx L (nb tx L b0))) (nI (tK tx L (nb tx L b0))) (nI (tN tx L (nb tx L b0))), cSp c, ?_, ⟨rfl, rfl, rfl, rfl, hb1⟩⟩
        cases sw
        all_goals
          (refine exI rfl rfl ?_; intro X hX)
          repeat refine hX _ _ _ _ _ _ _ _ _ _ _ _ _ _ rfl ?_
          refine br_f (show ¬ nI 6 ≤ tStatues (cSp c) from by rw [hS.2.2.1]; exact nI_ge (by omega) (by omega)) ?_
          repeat refine hX _ _ _ _ _ _ _ _ _ _ _ _ _ _ rfl ?_
          rw [show tYards (cSp c) - 1 = nI (aNy T - 1) from by rw [hS.1, e1]]
          refine Or.inl ⟨_, _, hn1, ?_⟩
          repeat refine hX _ _ _ _ _ _ _ _ _ _ _ _ _ _ rfl ?_
          refine br_f (show ¬ b2i true = 0 by decide) ?_
          repeat refine hX _ _ _ _ _ _ _ _ _ _ _ _ _ _ rfl ?_
          refine Or.inl ⟨_, _, htk, ?_⟩
          repeat refine hX _ _ _ _ _ _ _ _ _ _ _ _ _ _ rfl ?_
          refine br_f (show ¬ b2i true = 0 by decide) ?_
          repeat refine hX _ _ _ _ _ _ _ _ _ _ _ _ _ _ rfl ?_
          exact ⟨Or.inl rfl, rfl, rfl⟩
      | false =>
        rw [hg2] at htk
        simp only [Bool.not_false, cond_true]
        have hn2 := n_num S d sw c hm hR hb1 (nI (nb tx L b0)) (nI (tK tx L (nb tx L b0))) (nI (tN tx L (nb tx L b0))) (lo := 1) (hi := 30) (by decide) (by decide)
        cases hg3 : rng tx L (nb tx L (nb tx L b0)) 1 30 with
        | false =>
          rw [hg3] at hn2
          refine ⟨rX (cRd c) (nI (nb tx L (nb tx L b0))) (nI (tE tx L (nb tx L (nb tx L b0)))) (nI (tK tx L (nb tx L (nb tx L b0)))) (nI (tN tx L (nb tx L (nb tx L b0)))), cSp c, ?_, ⟨rfl, rfl, rfl, rfl, hb2⟩⟩
          cases sw
          all_goals
            (refine exI rfl rfl ?_; intro X hX)
            repeat refine hX _ _ _ _ _ _ _ _ _ _ _ _ _ _ rfl ?_
            refine br_f (show ¬ nI 6 ≤ tStatues (cSp c) from by rw [hS.2.2.1]; exact nI_ge (by omega) (by omega)) ?_
            repeat refine hX _ _ _ _ _ _ _ _ _ _ _ _ _ _ rfl ?_
            rw [show tYards (cSp c) - 1 = nI (aNy T - 1) from by rw [hS.1, e1]]
            refine Or.inl ⟨_, _, hn1, ?_⟩
            repeat refine hX _ _ _ _ _ _ _ _ _ _ _ _ _ _ rfl ?_
            refine br_f (show ¬ b2i true = 0 by decide) ?_
            repeat refine hX _ _ _ _ _ _ _ _ _ _ _ _ _ _ rfl ?_
            refine Or.inl ⟨_, _, htk, ?_⟩
            repeat refine hX _ _ _ _ _ _ _ _ _ _ _ _ _ _ rfl ?_
            refine br_t (show b2i false = 0 from rfl) ?_
            repeat refine hX _ _ _ _ _ _ _ _ _ _ _ _ _ _ rfl ?_
            refine Or.inl ⟨_, _, hn2, ?_⟩
            repeat refine hX _ _ _ _ _ _ _ _ _ _ _ _ _ _ rfl ?_
            refine br_f (show ¬ ¬ b2i false = 0 by decide) ?_
            repeat refine hX _ _ _ _ _ _ _ _ _ _ _ _ _ _ rfl ?_
            exact ⟨Or.inl rfl, rfl, rfl⟩
        | true =>
          rw [hg3] at hn2
          simp only [cond_true]
          have hi3 := n_ins S d sw c hm hR hb2 (nI (nb tx L (nb tx L b0))) (nI (tK tx L (nb tx L (nb tx L b0)))) (nI (tN tx L (nb tx L (nb tx L b0)))) (most := 1) (by decide)
          generalize hB1 : nb tx L b0 = b1 at *
          generalize hB2 : nb tx L b1 = b2 at *
          generalize hB3 : nb tx L b2 = b3 at *
          cases hg4 : tI tx L b3 1 with
          | false =>
            rw [hg4] at hi3
            refine ⟨rX (cRd c) (nI b3) (nI (tE tx L b3)) (nI (tK tx L b3)) (nI (tN tx L b2)), cSp c, ?_, ⟨rfl, rfl, rfl, rfl, hb3⟩⟩
            cases sw
            all_goals
              (refine exI rfl rfl ?_; intro X hX)
              repeat refine hX _ _ _ _ _ _ _ _ _ _ _ _ _ _ rfl ?_
              refine br_f (show ¬ nI 6 ≤ tStatues (cSp c) from by rw [hS.2.2.1]; exact nI_ge (by omega) (by omega)) ?_
              repeat refine hX _ _ _ _ _ _ _ _ _ _ _ _ _ _ rfl ?_
              rw [show tYards (cSp c) - 1 = nI (aNy T - 1) from by rw [hS.1, e1]]
              refine Or.inl ⟨_, _, hn1, ?_⟩
              repeat refine hX _ _ _ _ _ _ _ _ _ _ _ _ _ _ rfl ?_
              refine br_f (show ¬ b2i true = 0 by decide) ?_
              repeat refine hX _ _ _ _ _ _ _ _ _ _ _ _ _ _ rfl ?_
              refine Or.inl ⟨_, _, htk, ?_⟩
              repeat refine hX _ _ _ _ _ _ _ _ _ _ _ _ _ _ rfl ?_
              refine br_t (show b2i false = 0 from rfl) ?_
              repeat refine hX _ _ _ _ _ _ _ _ _ _ _ _ _ _ rfl ?_
              refine Or.inl ⟨_, _, hn2, ?_⟩
              repeat refine hX _ _ _ _ _ _ _ _ _ _ _ _ _ _ rfl ?_
              refine br_t (show ¬ b2i true = 0 by decide) ?_
              repeat refine hX _ _ _ _ _ _ _ _ _ _ _ _ _ _ rfl ?_
              refine Or.inl ⟨_, _, hi3, ?_⟩
              repeat refine hX _ _ _ _ _ _ _ _ _ _ _ _ _ _ rfl ?_
              refine br_f (show ¬ ¬ b2i false = 0 by decide) ?_
              repeat refine hX _ _ _ _ _ _ _ _ _ _ _ _ _ _ rfl ?_
              exact ⟨Or.inl rfl, rfl, rfl⟩
          | true =>
            rw [hg4] at hi3
            obtain ⟨hbl, -, hat⟩ := tI_at hg4
            have hlt3 := (tE_le tx hb3).2.2 hbl
            have d3 := hat b3 (Nat.le_refl _) hlt3
            have htx3 := hR.2.2.1 b3 hbl
            have hadd := c_addStatue S (d + 2) sw (s_cRd c (rX (cRd c) (nI b3) (nI (tE tx L b3)) (nI (tK tx L b3)) (nI (tN tx L b2)))) hm (n := aNs T) hS.2.2.1 (by omega) (nI (tN tx L b1)) (nI (tN tx L b2)) (nI (tx b3 - 97))
            have hstp := n_stop S d sw (s_cSp c (qSta (cSp c) (aNs T) (nI (aNs T + 1)) (nI (tN tx L b1)) (nI (tN tx L b2)) (nI (tx b3 - 97)))) hm hR hb3 (nI b3) (nI (tK tx L b3)) (nI (tN tx L b2))
            simp only [cond_true, pEnd_is]
            refine ⟨_, _, ?_, pEnd_post (tx := tx) (k := nI (tK tx L (nb tx L b3))) (n := nI (tN tx L b2)) hb4 (SRel_sta hS (tN tx L b1) (tN tx L b2) (tx b3 - 97)) (cRd c) rfl rfl rfl hsi⟩
            cases sw
            all_goals
              (refine exI rfl rfl ?_; intro X hX)
              repeat refine hX _ _ _ _ _ _ _ _ _ _ _ _ _ _ rfl ?_
              refine br_f (show ¬ nI 6 ≤ tStatues (cSp c) from by rw [hS.2.2.1]; exact nI_ge (by omega) (by omega)) ?_
              repeat refine hX _ _ _ _ _ _ _ _ _ _ _ _ _ _ rfl ?_
              rw [show tYards (cSp c) - 1 = nI (aNy T - 1) from by rw [hS.1, e1]]
              refine Or.inl ⟨_, _, hn1, ?_⟩
              repeat refine hX _ _ _ _ _ _ _ _ _ _ _ _ _ _ rfl ?_
              refine br_f (show ¬ b2i true = 0 by decide) ?_
              repeat refine hX _ _ _ _ _ _ _ _ _ _ _ _ _ _ rfl ?_
              refine Or.inl ⟨_, _, htk, ?_⟩
              repeat refine hX _ _ _ _ _ _ _ _ _ _ _ _ _ _ rfl ?_
              refine br_t (show b2i false = 0 from rfl) ?_
              repeat refine hX _ _ _ _ _ _ _ _ _ _ _ _ _ _ rfl ?_
              refine Or.inl ⟨_, _, hn2, ?_⟩
              repeat refine hX _ _ _ _ _ _ _ _ _ _ _ _ _ _ rfl ?_
              refine br_t (show ¬ b2i true = 0 by decide) ?_
              repeat refine hX _ _ _ _ _ _ _ _ _ _ _ _ _ _ rfl ?_
              refine Or.inl ⟨_, _, hi3, ?_⟩
              repeat refine hX _ _ _ _ _ _ _ _ _ _ _ _ _ _ rfl ?_
              refine br_t (show ¬ b2i true = 0 by decide) ?_
              repeat refine hX _ _ _ _ _ _ _ _ _ _ _ _ _ _ rfl ?_
              refine ⟨vp_in_nI (by omega) (by decide), ?_⟩
              rw [nI_clamp (by omega)]
              rw [htx3]
              iterate 3 (refine hX _ _ _ _ _ _ _ _ _ _ _ _ _ _ rfl ?_)
              rw [show nI (tx b3) - 97 = nI (tx b3 - 97) from pk_sub (b := 97) d3.1]
              refine Or.inl ⟨_, _, hadd, ?_⟩
              repeat refine hX _ _ _ _ _ _ _ _ _ _ _ _ _ _ rfl ?_
              refine Or.inl ⟨_, _, hstp, ?_⟩
              repeat refine hX _ _ _ _ _ _ _ _ _ _ _ _ _ _ rfl ?_
              exact ⟨b2i_01 _, rfl, rfl⟩
