/-! ===== the reference: an item, all of them ===== -/
theorem PRel_yar {rd rr : cF} {T : aT} {ya : aF} (h : PRel rd rr T ya) (n : Nat) : PRel (upd rd 0 (nI n)) rr (tYar T n) ya := by
  obtain ⟨⟨g0, g1, g2, g3, g4, g5⟩, r1, r2⟩ := h
  refine ⟨⟨?_, ?_, ?_, ?_, fun j hj => ?_, fun p hp => ?_⟩, r1, r2⟩
  · rw [pk_us]
  · rw [pk_un (by omega)]; exact g1
  · rw [pk_un (by omega)]; exact g2
  · rw [pk_un (by omega)]; exact g3
  · rw [pk_un (by omega), pk_un (by omega)]; exact g4 j hj
  · rw [pk_un (by omega), pk_un (by omega), pk_un (by omega), pk_un (by omega)]; exact g5 p hp
theorem PRel_sig {rd rr : cF} {T : aT} {ya : aF} (h : PRel rd rr T ya) (n : Nat) : PRel (upd rd 3 (nI n)) rr (tSig T n) ya := by
  obtain ⟨⟨g0, g1, g2, g3, g4, g5⟩, r1, r2⟩ := h
  refine ⟨⟨?_, ?_, ?_, ?_, fun j hj => ?_, fun p hp => ?_⟩, r1, r2⟩
  · rw [pk_un (by omega)]; exact g0
  · rw [pk_un (by omega)]; exact g1
  · rw [pk_un (by omega)]; exact g2
  · rw [pk_us]
  · rw [pk_un (by omega), pk_un (by omega)]; exact g4 j hj
  · rw [pk_un (by omega), pk_un (by omega), pk_un (by omega), pk_un (by omega)]; exact g5 p hp
theorem m_item (S : zS) (d : Nat) (hc : List zC) (m : mS) {tx : aF} {L b0 it : Nat} {T : aT} {ya : aF} {si : Bool} (hR : QR m tx L) (hb0 : b0 < L) (hP : PWf T ya) {rd rr : cF} (hS : PRel rd rr T ya) : ∃ sp be tk vl rd' rr', Ex S (d + 6) 0 0 105 [.ref 1000, .int (b2i (decide (it = 0))), .int (b2i si)] (hc, hQ m rd rr (nI (tE tx L b0)) (nI b0) (mTk tx L b0) (mVl tx L b0)) (some (.int (b2i (isR (pItm tx L b0 T ya si it))))) (hc, hQ m rd' rr' sp be tk vl) ∧ MPost tx L sp be rd' rr' (pItm tx L b0 T ya si it) := by
  have hL := hR.1
  have hb0' := Nat.le_of_lt hb0
  have hte := tE_le tx hb0'
  have htx := hR.2.2.1 b0 hb0
  have htl := hR.2.2.2 b0 hb0
  have hb1 := (nb_le tx hb0').2
  have hb2 := (nb_le tx hb1).2
  unfold pItm
  by_cases hk : tK tx L b0 = 1
  · have hv : mVl tx L b0 = nI (tE tx L b0 - b0) := by unfold mVl; rw [if_pos hk]
    have hk1 : mTk tx L b0 = nI 1 := (mTk_k (by decide)).mpr hk
    rw [decide_eq_true hk, Bool.true_and]
    by_cases he : tE tx L b0 - b0 = 1
    · rw [decide_eq_true he]
      simp only [cond_true]
      have hv1 : mVl tx L b0 = nI 1 := by rw [hv, he]
      by_cases c1 : tx b0 = 110
      · rw [if_pos c1]
        unfold pYar
        by_cases hi : it = 0
        · rw [decide_eq_true hi]
          simp only [cond_true]
          generalize hB1 : nb tx L b0 = b1 at *
          generalize hB2 : nb tx L b1 = b2 at *
          have hn1 := m_isNumber S (d + 1) hc m hR hb0' hB1 rd rr (nI b0) (mTk tx L b0) (mVl tx L b0) (lo := 2) (hi := 10) (by decide) (by decide)
          cases hr1 : rng tx L b1 2 10 with
          | false =>
            rw [hr1] at hn1
            refine ⟨nI (tE tx L b1), nI b1, mTk tx L b1, mVl tx L b1, upd rd 0 (mVl tx L b1), rr, ?_, ⟨rfl, hb1⟩⟩
            (refine exI rfl rfl ?_; intro X hX)
            repeat refine hX _ _ _ _ _ _ _ _ _ _ _ _ _ _ rfl ?_
            refine br_f (show ¬ ¬ mTk tx L b0 = nI 1 from fun h => h hk1) ?_
            repeat refine hX _ _ _ _ _ _ _ _ _ _ _ _ _ _ rfl ?_
            refine br_f (show ¬ ¬ mVl tx L b0 = nI 1 from fun h => h hv1) ?_
            repeat refine hX _ _ _ _ _ _ _ _ _ _ _ _ _ _ rfl ?_
            refine ⟨vp_in_nI (by omega) (by decide), ?_⟩
            rw [nI_clamp (by omega)]
            rw [htx]
            repeat refine hX _ _ _ _ _ _ _ _ _ _ _ _ _ _ rfl ?_
            refine br_f (show ¬ ¬ nI (tx b0) = nI 110 from fun h => h (congrArg nI c1)) ?_
            repeat refine hX _ _ _ _ _ _ _ _ _ _ _ _ _ _ rfl ?_
            refine br_f (show ¬ b2i true = 0 by decide) ?_
            repeat refine hX _ _ _ _ _ _ _ _ _ _ _ _ _ _ rfl ?_
            refine Or.inl ⟨_, _, hn1, ?_⟩
            repeat refine hX _ _ _ _ _ _ _ _ _ _ _ _ _ _ rfl ?_
            refine ⟨by unfold vp_in; decide, ?_⟩
            rw [show (0 : Int32).toNatClampNeg = 0 from rfl]
            rw [set_rd]
            repeat refine hX _ _ _ _ _ _ _ _ _ _ _ _ _ _ rfl ?_
            refine br_t (show b2i false = 0 from rfl) ?_
            repeat refine hX _ _ _ _ _ _ _ _ _ _ _ _ _ _ rfl ?_
            exact ⟨Or.inl rfl, rfl, rfl⟩
          | true =>
            rw [hr1, rng_val hb1 (by decide) hr1] at hn1
            simp only [cond_true, pEnd_is]
            have hen := m_isEnd S (d + 1) hc m hR hb1 hB2 (upd rd 0 (nI (tN tx L b1))) rr (nI b1) (mTk tx L b1) (nI (tN tx L b1))
            refine ⟨nI (tE tx L b2), nI b2, mTk tx L b2, mVl tx L b2, _, _, ?_, MPost_end hb2 si (PRel_yar hS (tN tx L b1))⟩
            (refine exI rfl rfl ?_; intro X hX)
            repeat refine hX _ _ _ _ _ _ _ _ _ _ _ _ _ _ rfl ?_
            refine br_f (show ¬ ¬ mTk tx L b0 = nI 1 from fun h => h hk1) ?_
            repeat refine hX _ _ _ _ _ _ _ _ _ _ _ _ _ _ rfl ?_
            refine br_f (show ¬ ¬ mVl tx L b0 = nI 1 from fun h => h hv1) ?_
            repeat refine hX _ _ _ _ _ _ _ _ _ _ _ _ _ _ rfl ?_
            refine ⟨vp_in_nI (by omega) (by decide), ?_⟩
            rw [nI_clamp (by omega)]
            rw [htx]
            repeat refine hX _ _ _ _ _ _ _ _ _ _ _ _ _ _ rfl ?_
            refine br_f (show ¬ ¬ nI (tx b0) = nI 110 from fun h => h (congrArg nI c1)) ?_
            repeat refine hX _ _ _ _ _ _ _ _ _ _ _ _ _ _ rfl ?_
            refine br_f (show ¬ b2i true = 0 by decide) ?_
            repeat refine hX _ _ _ _ _ _ _ _ _ _ _ _ _ _ rfl ?_
            refine Or.inl ⟨_, _, hn1, ?_⟩
            repeat refine hX _ _ _ _ _ _ _ _ _ _ _ _ _ _ rfl ?_
            refine ⟨by unfold vp_in; decide, ?_⟩
            rw [show (0 : Int32).toNatClampNeg = 0 from rfl]
            rw [set_rd]
            repeat refine hX _ _ _ _ _ _ _ _ _ _ _ _ _ _ rfl ?_
            refine br_f (show ¬ b2i true = 0 by decide) ?_
            repeat refine hX _ _ _ _ _ _ _ _ _ _ _ _ _ _ rfl ?_
            refine Or.inl ⟨_, _, hen, ?_⟩
            repeat refine hX _ _ _ _ _ _ _ _ _ _ _ _ _ _ rfl ?_
            by_cases h3 : tK tx L b2 = 3
            · rw [decide_eq_true h3]
              refine br_f (show ¬ b2i true = 0 by decide) ?_
              repeat refine hX _ _ _ _ _ _ _ _ _ _ _ _ _ _ rfl ?_
              exact ⟨Or.inr rfl, by rw [decide_eq_true h3]; rfl, rfl⟩
            · rw [decide_eq_false h3]
              refine br_t (show b2i false = 0 from rfl) ?_
              repeat refine hX _ _ _ _ _ _ _ _ _ _ _ _ _ _ rfl ?_
              exact ⟨Or.inl rfl, by rw [decide_eq_false h3]; rfl, rfl⟩
        · rw [decide_eq_false hi]
          refine ⟨nI (tE tx L b0), nI b0, mTk tx L b0, mVl tx L b0, rd, rr, ?_, ⟨rfl, hb0'⟩⟩
          (refine exI rfl rfl ?_; intro X hX)
          repeat refine hX _ _ _ _ _ _ _ _ _ _ _ _ _ _ rfl ?_
          refine br_f (show ¬ ¬ mTk tx L b0 = nI 1 from fun h => h hk1) ?_
          repeat refine hX _ _ _ _ _ _ _ _ _ _ _ _ _ _ rfl ?_
          refine br_f (show ¬ ¬ mVl tx L b0 = nI 1 from fun h => h hv1) ?_
          repeat refine hX _ _ _ _ _ _ _ _ _ _ _ _ _ _ rfl ?_
          refine ⟨vp_in_nI (by omega) (by decide), ?_⟩
          rw [nI_clamp (by omega)]
          rw [htx]
          repeat refine hX _ _ _ _ _ _ _ _ _ _ _ _ _ _ rfl ?_
          refine br_f (show ¬ ¬ nI (tx b0) = nI 110 from fun h => h (congrArg nI c1)) ?_
          repeat refine hX _ _ _ _ _ _ _ _ _ _ _ _ _ _ rfl ?_
          refine br_t (show b2i false = 0 from rfl) ?_
          repeat refine hX _ _ _ _ _ _ _ _ _ _ _ _ _ _ rfl ?_
          refine br_t (show ¬ nI (tx b0) = nI 116 from by rw [c1]; decide) ?_
          repeat refine hX _ _ _ _ _ _ _ _ _ _ _ _ _ _ rfl ?_
          refine br_t (show ¬ nI (tx b0) = nI 112 from by rw [c1]; decide) ?_
          repeat refine hX _ _ _ _ _ _ _ _ _ _ _ _ _ _ rfl ?_
          refine br_t (show ¬ nI (tx b0) = nI 118 from by rw [c1]; decide) ?_
          repeat refine hX _ _ _ _ _ _ _ _ _ _ _ _ _ _ rfl ?_
          exact ⟨Or.inl rfl, rfl, rfl⟩
      · rw [if_neg c1]
        by_cases c2 : tx b0 = 116
        · rw [if_pos c2]
          obtain ⟨sp, be, tk, vl, rd', rr', hx, hp⟩ := m_statueItem S d hc m (si := si) hR hb0' hP hS (mTk tx L b0) (mVl tx L b0)
          refine ⟨sp, be, tk, vl, rd', rr', ?_, hp⟩
          (refine exI rfl rfl ?_; intro X hX)
          repeat refine hX _ _ _ _ _ _ _ _ _ _ _ _ _ _ rfl ?_
          refine br_f (show ¬ ¬ mTk tx L b0 = nI 1 from fun h => h hk1) ?_
          repeat refine hX _ _ _ _ _ _ _ _ _ _ _ _ _ _ rfl ?_
          refine br_f (show ¬ ¬ mVl tx L b0 = nI 1 from fun h => h hv1) ?_
          repeat refine hX _ _ _ _ _ _ _ _ _ _ _ _ _ _ rfl ?_
          refine ⟨vp_in_nI (by omega) (by decide), ?_⟩
          rw [nI_clamp (by omega)]
          rw [htx]
          repeat refine hX _ _ _ _ _ _ _ _ _ _ _ _ _ _ rfl ?_
          refine br_t (show ¬ nI (tx b0) = nI 110 from by rw [c2]; decide) ?_
          repeat refine hX _ _ _ _ _ _ _ _ _ _ _ _ _ _ rfl ?_
          refine br_f (show ¬ ¬ nI (tx b0) = nI 116 from fun h => h (congrArg nI c2)) ?_
          repeat refine hX _ _ _ _ _ _ _ _ _ _ _ _ _ _ rfl ?_
          refine Or.inl ⟨_, _, hx, ?_⟩
          repeat refine hX _ _ _ _ _ _ _ _ _ _ _ _ _ _ rfl ?_
          exact ⟨b2i_01 _, rfl, rfl⟩
        · rw [if_neg c2]
          by_cases c3 : tx b0 = 112
          · rw [if_pos c3]
            obtain ⟨sp, be, tk, vl, rd', rr', hx, hp⟩ := m_personItem S d hc m (si := si) hR hb0' hP hS (mTk tx L b0) (mVl tx L b0)
            refine ⟨sp, be, tk, vl, rd', rr', ?_, hp⟩
            (refine exI rfl rfl ?_; intro X hX)
            repeat refine hX _ _ _ _ _ _ _ _ _ _ _ _ _ _ rfl ?_
            refine br_f (show ¬ ¬ mTk tx L b0 = nI 1 from fun h => h hk1) ?_
            repeat refine hX _ _ _ _ _ _ _ _ _ _ _ _ _ _ rfl ?_
            refine br_f (show ¬ ¬ mVl tx L b0 = nI 1 from fun h => h hv1) ?_
            repeat refine hX _ _ _ _ _ _ _ _ _ _ _ _ _ _ rfl ?_
            refine ⟨vp_in_nI (by omega) (by decide), ?_⟩
            rw [nI_clamp (by omega)]
            rw [htx]
            repeat refine hX _ _ _ _ _ _ _ _ _ _ _ _ _ _ rfl ?_
            refine br_t (show ¬ nI (tx b0) = nI 110 from by rw [c3]; decide) ?_
            repeat refine hX _ _ _ _ _ _ _ _ _ _ _ _ _ _ rfl ?_
            refine br_t (show ¬ nI (tx b0) = nI 116 from by rw [c3]; decide) ?_
            repeat refine hX _ _ _ _ _ _ _ _ _ _ _ _ _ _ rfl ?_
            refine br_f (show ¬ ¬ nI (tx b0) = nI 112 from fun h => h (congrArg nI c3)) ?_
            repeat refine hX _ _ _ _ _ _ _ _ _ _ _ _ _ _ rfl ?_
            refine Or.inl ⟨_, _, hx, ?_⟩
            repeat refine hX _ _ _ _ _ _ _ _ _ _ _ _ _ _ rfl ?_
            exact ⟨b2i_01 _, rfl, rfl⟩
          · rw [if_neg c3]
            by_cases c4 : tx b0 = 118
            · rw [if_pos c4]
              unfold pSig
              cases si with
              | true =>
                refine ⟨nI (tE tx L b0), nI b0, mTk tx L b0, mVl tx L b0, rd, rr, ?_, ⟨rfl, hb0'⟩⟩
                (refine exI rfl rfl ?_; intro X hX)
                repeat refine hX _ _ _ _ _ _ _ _ _ _ _ _ _ _ rfl ?_
                refine br_f (show ¬ ¬ mTk tx L b0 = nI 1 from fun h => h hk1) ?_
                repeat refine hX _ _ _ _ _ _ _ _ _ _ _ _ _ _ rfl ?_
                refine br_f (show ¬ ¬ mVl tx L b0 = nI 1 from fun h => h hv1) ?_
                repeat refine hX _ _ _ _ _ _ _ _ _ _ _ _ _ _ rfl ?_
                refine ⟨vp_in_nI (by omega) (by decide), ?_⟩
                rw [nI_clamp (by omega)]
                rw [htx]
                repeat refine hX _ _ _ _ _ _ _ _ _ _ _ _ _ _ rfl ?_
                refine br_t (show ¬ nI (tx b0) = nI 110 from by rw [c4]; decide) ?_
                repeat refine hX _ _ _ _ _ _ _ _ _ _ _ _ _ _ rfl ?_
                refine br_t (show ¬ nI (tx b0) = nI 116 from by rw [c4]; decide) ?_
                repeat refine hX _ _ _ _ _ _ _ _ _ _ _ _ _ _ rfl ?_
                refine br_t (show ¬ nI (tx b0) = nI 112 from by rw [c4]; decide) ?_
                repeat refine hX _ _ _ _ _ _ _ _ _ _ _ _ _ _ rfl ?_
                refine br_f (show ¬ ¬ nI (tx b0) = nI 118 from fun h => h (congrArg nI c4)) ?_
                repeat refine hX _ _ _ _ _ _ _ _ _ _ _ _ _ _ rfl ?_
                refine br_t (show ¬ b2i true = 0 by decide) ?_
                repeat refine hX _ _ _ _ _ _ _ _ _ _ _ _ _ _ rfl ?_
                exact ⟨Or.inl rfl, rfl, rfl⟩
              | false =>
                simp only [cond_false]
                generalize hB1 : nb tx L b0 = b1 at *
                generalize hB2 : nb tx L b1 = b2 at *
                have hn1 := m_isNumber S (d + 1) hc m hR hb0' hB1 rd rr (nI b0) (mTk tx L b0) (mVl tx L b0) (lo := 0) (hi := 3) (by decide) (by decide)
                cases hr1 : rng tx L b1 0 3 with
                | false =>
                  rw [hr1] at hn1
                  refine ⟨nI (tE tx L b1), nI b1, mTk tx L b1, mVl tx L b1, rd, rr, ?_, ⟨rfl, hb1⟩⟩
                  (refine exI rfl rfl ?_; intro X hX)
                  repeat refine hX _ _ _ _ _ _ _ _ _ _ _ _ _ _ rfl ?_
                  refine br_f (show ¬ ¬ mTk tx L b0 = nI 1 from fun h => h hk1) ?_
                  repeat refine hX _ _ _ _ _ _ _ _ _ _ _ _ _ _ rfl ?_
                  refine br_f (show ¬ ¬ mVl tx L b0 = nI 1 from fun h => h hv1) ?_
                  repeat refine hX _ _ _ _ _ _ _ _ _ _ _ _ _ _ rfl ?_
                  refine ⟨vp_in_nI (by omega) (by decide), ?_⟩
                  rw [nI_clamp (by omega)]
                  rw [htx]
                  repeat refine hX _ _ _ _ _ _ _ _ _ _ _ _ _ _ rfl ?_
                  refine br_t (show ¬ nI (tx b0) = nI 110 from by rw [c4]; decide) ?_
                  repeat refine hX _ _ _ _ _ _ _ _ _ _ _ _ _ _ rfl ?_
                  refine br_t (show ¬ nI (tx b0) = nI 116 from by rw [c4]; decide) ?_
                  repeat refine hX _ _ _ _ _ _ _ _ _ _ _ _ _ _ rfl ?_
                  refine br_t (show ¬ nI (tx b0) = nI 112 from by rw [c4]; decide) ?_
                  repeat refine hX _ _ _ _ _ _ _ _ _ _ _ _ _ _ rfl ?_
                  refine br_f (show ¬ ¬ nI (tx b0) = nI 118 from fun h => h (congrArg nI c4)) ?_
                  repeat refine hX _ _ _ _ _ _ _ _ _ _ _ _ _ _ rfl ?_
                  refine br_f (show ¬ ¬ b2i false = 0 by decide) ?_
                  repeat refine hX _ _ _ _ _ _ _ _ _ _ _ _ _ _ rfl ?_
                  refine Or.inl ⟨_, _, hn1, ?_⟩
                  repeat refine hX _ _ _ _ _ _ _ _ _ _ _ _ _ _ rfl ?_
                  refine br_f (show ¬ ¬ b2i false = 0 by decide) ?_
                  repeat refine hX _ _ _ _ _ _ _ _ _ _ _ _ _ _ rfl ?_
                  exact ⟨Or.inl rfl, rfl, rfl⟩
                | true =>
                  rw [hr1, rng_val hb1 (by decide) hr1] at hn1
                  simp only [cond_true, pEnd_is]
                  have hen := m_isEnd S (d + 1) hc m hR hb1 hB2 (upd rd 3 (nI (tN tx L b1))) rr (nI b1) (mTk tx L b1) (nI (tN tx L b1))
                  refine ⟨nI (tE tx L b2), nI b2, mTk tx L b2, mVl tx L b2, _, _, ?_, MPost_end hb2 true (PRel_sig hS (tN tx L b1))⟩
                  (refine exI rfl rfl ?_; intro X hX)
                  repeat refine hX _ _ _ _ _ _ _ _ _ _ _ _ _ _ rfl ?_
                  refine br_f (show ¬ ¬ mTk tx L b0 = nI 1 from fun h => h hk1) ?_
                  repeat refine hX _ _ _ _ _ _ _ _ _ _ _ _ _ _ rfl ?_
                  refine br_f (show ¬ ¬ mVl tx L b0 = nI 1 from fun h => h hv1) ?_
                  repeat refine hX _ _ _ _ _ _ _ _ _ _ _ _ _ _ rfl ?_
                  refine ⟨vp_in_nI (by omega) (by decide), ?_⟩
                  rw [nI_clamp (by omega)]
                  rw [htx]
                  repeat refine hX _ _ _ _ _ _ _ _ _ _ _ _ _ _ rfl ?_
                  refine br_t (show ¬ nI (tx b0) = nI 110 from by rw [c4]; decide) ?_
                  repeat refine hX _ _ _ _ _ _ _ _ _ _ _ _ _ _ rfl ?_
                  refine br_t (show ¬ nI (tx b0) = nI 116 from by rw [c4]; decide) ?_
                  repeat refine hX _ _ _ _ _ _ _ _ _ _ _ _ _ _ rfl ?_
                  refine br_t (show ¬ nI (tx b0) = nI 112 from by rw [c4]; decide) ?_
                  repeat refine hX _ _ _ _ _ _ _ _ _ _ _ _ _ _ rfl ?_
                  refine br_f (show ¬ ¬ nI (tx b0) = nI 118 from fun h => h (congrArg nI c4)) ?_
                  repeat refine hX _ _ _ _ _ _ _ _ _ _ _ _ _ _ rfl ?_
                  refine br_f (show ¬ ¬ b2i false = 0 by decide) ?_
                  repeat refine hX _ _ _ _ _ _ _ _ _ _ _ _ _ _ rfl ?_
                  refine Or.inl ⟨_, _, hn1, ?_⟩
                  repeat refine hX _ _ _ _ _ _ _ _ _ _ _ _ _ _ rfl ?_
                  refine br_t (show ¬ b2i true = 0 by decide) ?_
                  repeat refine hX _ _ _ _ _ _ _ _ _ _ _ _ _ _ rfl ?_
                  refine ⟨by unfold vp_in; decide, ?_⟩
                  rw [show (3 : Int32).toNatClampNeg = 3 from rfl]
                  rw [set_rd]
                  repeat refine hX _ _ _ _ _ _ _ _ _ _ _ _ _ _ rfl ?_
                  refine Or.inl ⟨_, _, hen, ?_⟩
                  repeat refine hX _ _ _ _ _ _ _ _ _ _ _ _ _ _ rfl ?_
                  exact ⟨b2i_01 _, rfl, rfl⟩
            · rw [if_neg c4]
              refine ⟨nI (tE tx L b0), nI b0, mTk tx L b0, mVl tx L b0, rd, rr, ?_, ⟨rfl, hb0'⟩⟩
              (refine exI rfl rfl ?_; intro X hX)
              repeat refine hX _ _ _ _ _ _ _ _ _ _ _ _ _ _ rfl ?_
              refine br_f (show ¬ ¬ mTk tx L b0 = nI 1 from fun h => h hk1) ?_
              repeat refine hX _ _ _ _ _ _ _ _ _ _ _ _ _ _ rfl ?_
              refine br_f (show ¬ ¬ mVl tx L b0 = nI 1 from fun h => h hv1) ?_
              repeat refine hX _ _ _ _ _ _ _ _ _ _ _ _ _ _ rfl ?_
              refine ⟨vp_in_nI (by omega) (by decide), ?_⟩
              rw [nI_clamp (by omega)]
              rw [htx]
              repeat refine hX _ _ _ _ _ _ _ _ _ _ _ _ _ _ rfl ?_
              refine br_t (show ¬ nI (tx b0) = nI 110 from fun h => c1 ((nI_eq (by omega) (by decide)).mp h)) ?_
              repeat refine hX _ _ _ _ _ _ _ _ _ _ _ _ _ _ rfl ?_
              refine br_t (show ¬ nI (tx b0) = nI 116 from fun h => c2 ((nI_eq (by omega) (by decide)).mp h)) ?_
              repeat refine hX _ _ _ _ _ _ _ _ _ _ _ _ _ _ rfl ?_
              refine br_t (show ¬ nI (tx b0) = nI 112 from fun h => c3 ((nI_eq (by omega) (by decide)).mp h)) ?_
              repeat refine hX _ _ _ _ _ _ _ _ _ _ _ _ _ _ rfl ?_
              refine br_t (show ¬ nI (tx b0) = nI 118 from fun h => c4 ((nI_eq (by omega) (by decide)).mp h)) ?_
              repeat refine hX _ _ _ _ _ _ _ _ _ _ _ _ _ _ rfl ?_
              exact ⟨Or.inl rfl, rfl, rfl⟩
    · rw [decide_eq_false he]
      refine ⟨nI (tE tx L b0), nI b0, mTk tx L b0, mVl tx L b0, rd, rr, ?_, ⟨rfl, hb0'⟩⟩
      (refine exI rfl rfl ?_; intro X hX)
      repeat refine hX _ _ _ _ _ _ _ _ _ _ _ _ _ _ rfl ?_
      refine br_f (show ¬ ¬ mTk tx L b0 = nI 1 from fun h => h hk1) ?_
      repeat refine hX _ _ _ _ _ _ _ _ _ _ _ _ _ _ rfl ?_
      refine br_t (show ¬ mVl tx L b0 = nI 1 from by rw [hv]; exact fun h => he ((nI_eq (by omega) (by decide)).mp h)) ?_
      repeat refine hX _ _ _ _ _ _ _ _ _ _ _ _ _ _ rfl ?_
      refine br_t (show ¬ (0 : Int32) = nI 110 by decide) ?_
      repeat refine hX _ _ _ _ _ _ _ _ _ _ _ _ _ _ rfl ?_
      refine br_t (show ¬ (0 : Int32) = nI 116 by decide) ?_
      repeat refine hX _ _ _ _ _ _ _ _ _ _ _ _ _ _ rfl ?_
      refine br_t (show ¬ (0 : Int32) = nI 112 by decide) ?_
      repeat refine hX _ _ _ _ _ _ _ _ _ _ _ _ _ _ rfl ?_
      refine br_t (show ¬ (0 : Int32) = nI 118 by decide) ?_
      repeat refine hX _ _ _ _ _ _ _ _ _ _ _ _ _ _ rfl ?_
      exact ⟨Or.inl rfl, rfl, rfl⟩
  · rw [decide_eq_false hk, Bool.false_and]
    refine ⟨nI (tE tx L b0), nI b0, mTk tx L b0, mVl tx L b0, rd, rr, ?_, ⟨rfl, hb0'⟩⟩
    (refine exI rfl rfl ?_; intro X hX)
    repeat refine hX _ _ _ _ _ _ _ _ _ _ _ _ _ _ rfl ?_
    refine br_t (show ¬ mTk tx L b0 = nI 1 from fun h => hk ((mTk_k (by decide)).mp h)) ?_
    repeat refine hX _ _ _ _ _ _ _ _ _ _ _ _ _ _ rfl ?_
    refine br_t (show ¬ (0 : Int32) = nI 110 by decide) ?_
    repeat refine hX _ _ _ _ _ _ _ _ _ _ _ _ _ _ rfl ?_
    refine br_t (show ¬ (0 : Int32) = nI 116 by decide) ?_
    repeat refine hX _ _ _ _ _ _ _ _ _ _ _ _ _ _ rfl ?_
    refine br_t (show ¬ (0 : Int32) = nI 112 by decide) ?_
    repeat refine hX _ _ _ _ _ _ _ _ _ _ _ _ _ _ rfl ?_
    refine br_t (show ¬ (0 : Int32) = nI 118 by decide) ?_
    repeat refine hX _ _ _ _ _ _ _ _ _ _ _ _ _ _ rfl ?_
    exact ⟨Or.inl rfl, rfl, rfl⟩
theorem pEnd_si {tx : aF} {L b : Nat} {T T' : aT} {ya ya' : aF} {si si' : Bool} {bl : Nat} (h : pEnd tx L b T ya si = .inr (bl, T', ya', si')) : si' = si := by
  unfold pEnd at h
  cases hk : decide (tK tx L b = 3) with
  | false => rw [hk] at h; cases h
  | true => rw [hk] at h; cases h; rfl
theorem pSta_si {tx : aF} {L b0 : Nat} {T T' : aT} {ya ya' : aF} {si si' : Bool} {bl : Nat} (h : pSta tx L b0 T ya si = .inr (bl, T', ya', si')) : si' = si := by
  unfold pSta at h
  cases h2 : decide (aNs T = 6) with
  | true => rw [h2] at h; cases h
  | false =>
    rw [h2] at h
    simp only [cond_false] at h
    cases h3 : (rng tx L (nb tx L b0) 0 (aNy T - 1) && !taken ya (tN tx L (nb tx L b0)) (aNs T)) with
    | false => rw [h3] at h; cases h
    | true =>
      rw [h3] at h
      simp only [cond_true] at h
      cases h4 : rng tx L (nb tx L (nb tx L b0)) 1 30 with
      | false => rw [h4] at h; cases h
      | true =>
        rw [h4] at h
        simp only [cond_true] at h
        cases h5 : tI tx L (nb tx L (nb tx L (nb tx L b0))) 1 with
        | false => rw [h5] at h; cases h
        | true =>
          rw [h5] at h
          simp only [cond_true] at h
          exact pEnd_si h
theorem pOne_si {tx : aF} {L b0 : Nat} {T T' : aT} {ya ya' : aF} {si si' : Bool} {bl : Nat} (h : pOne tx L b0 T ya si = .inr (bl, T', ya', si')) : si' = si := by
  unfold pOne at h
  cases h2 : decide (aNp T = 6) with
  | true => rw [h2] at h; cases h
  | false =>
    rw [h2] at h
    simp only [cond_false] at h
    cases h3 : rng tx L (nb tx L b0) 0 (aNy T - 1) with
    | false => rw [h3] at h; cases h
    | true =>
      rw [h3] at h
      simp only [cond_true] at h
      cases h4 : rng tx L (nb tx L (nb tx L b0)) 1 9 with
      | false => rw [h4] at h; cases h
      | true =>
        rw [h4] at h
        simp only [cond_true] at h
        cases h5 : rng tx L (nb tx L (nb tx L (nb tx L b0))) 0 3 with
        | false => rw [h5] at h; cases h
        | true =>
          rw [h5] at h
          simp only [cond_true] at h
          cases h6 : tI tx L (nb tx L (nb tx L (nb tx L (nb tx L b0)))) 6 with
          | false => rw [h6] at h; cases h
          | true =>
            rw [h6] at h
            simp only [cond_true] at h
            exact pEnd_si h
/-- the sight is told after an item: it was, or this one tells it -/
theorem pItm_si {tx : aF} {L b0 it : Nat} {T T' : aT} {ya ya' : aF} {si si' : Bool} {bl : Nat} (h : pItm tx L b0 T ya si it = .inr (bl, T', ya', si')) : (si || (decide (tK tx L b0 = 1) && (decide (tE tx L b0 - b0 = 1) && decide (tx b0 = 118)))) = si' := by
  unfold pItm at h
  cases h1 : (decide (tK tx L b0 = 1) && decide (tE tx L b0 - b0 = 1)) with
  | false => rw [h1] at h; cases h
  | true =>
    rw [← Bool.and_assoc, h1, Bool.true_and]
    rw [h1] at h
    simp only [cond_true] at h
    by_cases c1 : tx b0 = 110
    · rw [if_pos c1] at h
      rw [decide_eq_false (by omega), Bool.or_false]
      unfold pYar at h
      cases h2 : decide (it = 0) with
      | false => rw [h2] at h; cases h
      | true =>
        rw [h2] at h
        simp only [cond_true] at h
        cases h3 : rng tx L (nb tx L b0) 2 10 with
        | false => rw [h3] at h; cases h
        | true =>
          rw [h3] at h
          simp only [cond_true] at h
          exact (pEnd_si h).symm
    · rw [if_neg c1] at h
      by_cases c2 : tx b0 = 116
      · rw [if_pos c2] at h
        rw [decide_eq_false (by omega), Bool.or_false]
        exact (pSta_si h).symm
      · rw [if_neg c2] at h
        by_cases c3 : tx b0 = 112
        · rw [if_pos c3] at h
          rw [decide_eq_false (by omega), Bool.or_false]
          exact (pOne_si h).symm
        · rw [if_neg c3] at h
          by_cases c4 : tx b0 = 118
          · rw [if_pos c4] at h
            rw [decide_eq_true c4, Bool.or_true]
            unfold pSig at h
            cases si with
            | true => cases h
            | false =>
              simp only [cond_false] at h
              cases h2 : rng tx L (nb tx L b0) 0 3 with
              | false => rw [h2] at h; cases h
              | true =>
                rw [h2] at h
                simp only [cond_true] at h
                exact (pEnd_si h).symm
          · rw [if_neg c4] at h
            cases h
