/-! ===== the reference: a statue, a person ===== -/
def MPost (tx : aF) (L : Nat) (sp be : Int32) (rd rr : cF) (res : pR) : Prop := match res with
  | .inl f => be = nI f ∧ f ≤ L
  | .inr (bl, T', ya', _) => bl < L ∧ sp = nI (tE tx L bl) ∧ PRel rd rr T' ya'
theorem MPost_end {tx : aF} {L b : Nat} (hb : b ≤ L) {rd rr : cF} {T : aT} {ya : aF} (si : Bool) (h : PRel rd rr T ya) : MPost tx L (nI (tE tx L b)) (nI b) rd rr (pEnd tx L b T ya si) := by
  unfold pEnd
  by_cases h3 : tK tx L b = 3
  · rw [decide_eq_true h3]
    exact ⟨tK_lt h3, rfl, h⟩
  · rw [decide_eq_false h3]
    exact ⟨rfl, hb⟩
theorem rng_val {tx : aF} {L b lo hi : Nat} (hb : b ≤ L) (hh : hi < 100) (h : rng tx L b lo hi = true) : mVl tx L b = nI (tN tx L b) := by
  have := rng_of h
  rcases mTk_2 (tx := tx) hb with ⟨-, -, h3⟩ | ⟨-, h3⟩
  · exact h3
  · omega
theorem tS_1 {tx : aF} {L b : Nat} (h : tI tx L b 1 = true) : tS tx L b = 2 ^ (tx b - 97) ∧ tx b - 97 < 6 := by
  obtain ⟨h1, h2, h3⟩ := tI_at h
  have h4 := (tE_le tx (Nat.le_of_lt h1)).2.2 h1
  have h5 := h3 b (Nat.le_refl _) h4
  unfold tS
  rw [show tE tx L b - b = 1 by omega, setF, setF, Nat.zero_or]
  exact ⟨rfl, by omega⟩
theorem PRel_sta {rd rr : cF} {T : aT} {ya : aF} (h : PRel rd rr T ya) (h6 : aNs T < 6) (hp : aNp T ≤ 6) (y w i : Nat) : PRel (upd (upd (upd rd (4 + aNs T) (nI w)) (10 + aNs T) (nI i)) 1 (nI (aNs T + 1))) (upd rr (aNs T) (nI y)) (tSta T w i) (aup ya (aNs T) y) := by
  obtain ⟨⟨g0, g1, g2, g3, g4, g5⟩, r1, r2⟩ := h
  refine ⟨⟨?_, ?_, ?_, ?_, fun j hj => ?_, fun p hp => ?_⟩, fun j hj => ?_, fun j h1 h2 => ?_⟩
  · rw [pk_un (by omega), pk_un (by omega), pk_un (by omega)]; exact g0
  · rw [pk_us]
  · rw [pk_un (by omega), pk_un (by omega), pk_un (by omega)]; exact g2
  · rw [pk_un (by omega), pk_un (by omega), pk_un (by omega)]; exact g3
  · have hj : j < aNs T + 1 := hj
    show _ = nI (aup (aWe T) (aNs T) w j) ∧ _ = nI (aup (aIn T) (aNs T) i j)
    by_cases he : j = aNs T
    · rw [he, aup_s, aup_s, pk_un (by omega), pk_un (by omega), pk_us, pk_un (by omega), pk_us]
      exact ⟨rfl, rfl⟩
    · rw [aup_n _ _ he, aup_n _ _ he, pk_un (by omega), pk_un (by omega), pk_un (by omega), pk_un (by omega), pk_un (by omega), pk_un (by omega)]
      exact g4 j (by omega)
  · have hp : p < aNp T := hp
    rw [pk_un (by omega), pk_un (by omega), pk_un (by omega), pk_un (by omega), pk_un (by omega), pk_un (by omega), pk_un (by omega), pk_un (by omega), pk_un (by omega), pk_un (by omega), pk_un (by omega), pk_un (by omega)]
    exact g5 p hp
  · have hj : j < aNs T + 1 := hj
    by_cases he : j = aNs T
    · rw [he, pk_us, aup_s]
    · rw [pk_un he, aup_n _ _ he]
      exact r1 j (by omega)
  · rw [pk_un (by omega)]
    exact r2 j h1 h2
theorem PRel_one {rd rr : cF} {T : aT} {ya : aF} (h : PRel rd rr T ya) (h6 : aNp T < 6) (hs : aNs T ≤ 6) (ho st cr wg : Nat) : PRel (upd (upd (upd (upd (upd rd (16 + aNp T) (nI ho)) (22 + aNp T) (nI st)) (28 + aNp T) (nI cr)) (34 + aNp T) (nI wg)) 2 (nI (aNp T + 1))) rr (tOne T ho st cr wg) ya := by
  obtain ⟨⟨g0, g1, g2, g3, g4, g5⟩, r1, r2⟩ := h
  have e5 : ∀ i, i ≠ 16 + aNp T → i ≠ 22 + aNp T → i ≠ 28 + aNp T → i ≠ 34 + aNp T → i ≠ 2 → upd (upd (upd (upd (upd rd (16 + aNp T) (nI ho)) (22 + aNp T) (nI st)) (28 + aNp T) (nI cr)) (34 + aNp T) (nI wg)) 2 (nI (aNp T + 1)) i = rd i := by
    intro i h1 h2 h3 h4 h5
    rw [pk_un h5, pk_un h4, pk_un h3, pk_un h2, pk_un h1]
  refine ⟨⟨?_, ?_, ?_, ?_, fun j hj => ?_, fun p hp => ?_⟩, r1, r2⟩
  · rw [e5 0 (by omega) (by omega) (by omega) (by omega) (by omega)]; exact g0
  · rw [e5 1 (by omega) (by omega) (by omega) (by omega) (by omega)]; exact g1
  · rw [pk_us]
  · rw [e5 3 (by omega) (by omega) (by omega) (by omega) (by omega)]; exact g3
  · have hj : j < aNs T := hj
    rw [e5 _ (by omega) (by omega) (by omega) (by omega) (by omega), e5 _ (by omega) (by omega) (by omega) (by omega) (by omega)]
    exact g4 j hj
  · have hp : p < aNp T + 1 := hp
    show _ = nI (aup (aHo T) (aNp T) ho p) ∧ _ = nI (aup (aSt T) (aNp T) st p) ∧ _ = nI (aup (aCr T) (aNp T) cr p) ∧ _ = nI (aup (aWg T) (aNp T) wg p)
    by_cases he : p = aNp T
    · rw [he, aup_s, aup_s, aup_s, aup_s]
      refine ⟨?_, ?_, ?_, ?_⟩
      · rw [pk_un (by omega), pk_un (by omega), pk_un (by omega), pk_un (by omega), pk_us]
      · rw [pk_un (by omega), pk_un (by omega), pk_un (by omega), pk_us]
      · rw [pk_un (by omega), pk_un (by omega), pk_us]
      · rw [pk_un (by omega), pk_us]
    · rw [aup_n _ _ he, aup_n _ _ he, aup_n _ _ he, aup_n _ _ he, e5 _ (by omega) (by omega) (by omega) (by omega) (by omega), e5 _ (by omega) (by omega) (by omega) (by omega) (by omega), e5 _ (by omega) (by omega) (by omega) (by omega) (by omega), e5 _ (by omega) (by omega) (by omega) (by omega) (by omega)]
      exact g5 p (by omega)
theorem m_statueItem (S : zS) (d : Nat) (hc : List zC) (m : mS) {tx : aF} {L b0 : Nat} {T : aT} {ya : aF} {si : Bool} (hR : QR m tx L) (hb0 : b0 ≤ L) (hP : PWf T ya) {rd rr : cF} (hS : PRel rd rr T ya) (k v : Int32) : ∃ sp be tk vl rd' rr', Ex S (d + 5) 0 0 103 [.ref 1000] (hc, hQ m rd rr (nI (tE tx L b0)) (nI b0) k v) (some (.int (b2i (isR (pSta tx L b0 T ya si))))) (hc, hQ m rd' rr' sp be tk vl) ∧ MPost tx L sp be rd' rr' (pSta tx L b0 T ya si) := by
  have hL := hR.1
  have hns := hP.1.2.2.2.1
  have hnp := hP.1.2.2.2.2.1
  have hny := hP.1.2.1
  have hny2 := hP.1.1
  have hg0 : rd 0 = nI (aNy T) := hS.1.1
  have hg1 : rd 1 = nI (aNs T) := hS.1.2.1
  have hg2 : rd 2 = nI (aNp T) := hS.1.2.2.1
  have e1 : nI (aNy T) - 1 = nI (aNy T - 1) := pk_sub (b := 1) (by omega)
  have hb1 := (nb_le tx hb0).2
  have hb2 := (nb_le tx hb1).2
  have hb3 := (nb_le tx hb2).2
  have hb4 := (nb_le tx hb3).2
  have hb5 := (nb_le tx hb4).2
  unfold pSta
  generalize hB1 : nb tx L b0 = b1 at *
  generalize hB2 : nb tx L b1 = b2 at *
  generalize hB3 : nb tx L b2 = b3 at *
  generalize hB4 : nb tx L b3 = b4 at *
  by_cases h6 : aNs T = 6
  · rw [decide_eq_true h6]
    refine ⟨nI (tE tx L b0), nI b0, k, v, rd, rr, ?_, ⟨rfl, hb0⟩⟩
    (refine exI rfl rfl ?_; intro X hX)
    repeat refine hX _ _ _ _ _ _ _ _ _ _ _ _ _ _ rfl ?_
    refine ⟨by unfold vp_in; decide, ?_⟩
    rw [show (1 : Int32).toNatClampNeg = 1 from rfl]
    rw [hg1]
    repeat refine hX _ _ _ _ _ _ _ _ _ _ _ _ _ _ rfl ?_
    refine br_t (show nI (aNs T) = nI 6 from congrArg nI h6) ?_
    repeat refine hX _ _ _ _ _ _ _ _ _ _ _ _ _ _ rfl ?_
    exact ⟨Or.inl rfl, rfl, rfl⟩
  · rw [decide_eq_false h6]
    simp only [cond_false]
    have hn1 := m_isNumber S d hc m hR hb0 hB1 rd rr (nI b0) k v (lo := 0) (hi := aNy T - 1) (by decide) (by omega)
    cases hr1 : rng tx L b1 0 (aNy T - 1) with
    | false =>
      rw [hr1] at hn1
      refine ⟨nI (tE tx L b1), nI b1, mTk tx L b1, mVl tx L b1, rd, rr, ?_, ⟨rfl, hb1⟩⟩
      (refine exI rfl rfl ?_; intro X hX)
      repeat refine hX _ _ _ _ _ _ _ _ _ _ _ _ _ _ rfl ?_
      refine ⟨by unfold vp_in; decide, ?_⟩
      rw [show (1 : Int32).toNatClampNeg = 1 from rfl]
      rw [hg1]
      repeat refine hX _ _ _ _ _ _ _ _ _ _ _ _ _ _ rfl ?_
      refine br_f (show ¬ nI (aNs T) = nI 6 from fun h => h6 ((nI_eq (by omega) (by decide)).mp h)) ?_
      repeat refine hX _ _ _ _ _ _ _ _ _ _ _ _ _ _ rfl ?_
      refine ⟨by unfold vp_in; decide, ?_⟩
      rw [show (0 : Int32).toNatClampNeg = 0 from rfl]
      rw [hg0]
      repeat refine hX _ _ _ _ _ _ _ _ _ _ _ _ _ _ rfl ?_
      rw [e1]
      refine Or.inl ⟨_, _, hn1, ?_⟩
      repeat refine hX _ _ _ _ _ _ _ _ _ _ _ _ _ _ rfl ?_
      refine br_t (show b2i false = 0 from rfl) ?_
      repeat refine hX _ _ _ _ _ _ _ _ _ _ _ _ _ _ rfl ?_
      exact ⟨Or.inl rfl, rfl, rfl⟩
    | true =>
      rw [hr1, rng_val hb1 (by omega) hr1] at hn1
      simp only [Bool.true_and]
      have ht := tN_le tx L b1
      have hey := m_isEmptyYard S (d + 3) hc m hP hS (nI (tE tx L b1)) (nI b1) (mTk tx L b1) (nI (tN tx L b1)) (y := tN tx L b1) (by omega)
      cases hr2 : taken ya (tN tx L b1) (aNs T) with
      | true =>
        rw [hr2] at hey
        refine ⟨nI (tE tx L b1), nI b1, mTk tx L b1, nI (tN tx L b1), rd, rr, ?_, ⟨rfl, hb1⟩⟩
        (refine exI rfl rfl ?_; intro X hX)
        repeat refine hX _ _ _ _ _ _ _ _ _ _ _ _ _ _ rfl ?_
        refine ⟨by unfold vp_in; decide, ?_⟩
        rw [show (1 : Int32).toNatClampNeg = 1 from rfl]
        rw [hg1]
        repeat refine hX _ _ _ _ _ _ _ _ _ _ _ _ _ _ rfl ?_
        refine br_f (show ¬ nI (aNs T) = nI 6 from fun h => h6 ((nI_eq (by omega) (by decide)).mp h)) ?_
        repeat refine hX _ _ _ _ _ _ _ _ _ _ _ _ _ _ rfl ?_
        refine ⟨by unfold vp_in; decide, ?_⟩
        rw [show (0 : Int32).toNatClampNeg = 0 from rfl]
        rw [hg0]
        repeat refine hX _ _ _ _ _ _ _ _ _ _ _ _ _ _ rfl ?_
        rw [e1]
        refine Or.inl ⟨_, _, hn1, ?_⟩
        repeat refine hX _ _ _ _ _ _ _ _ _ _ _ _ _ _ rfl ?_
        refine br_f (show ¬ b2i true = 0 by decide) ?_
        repeat refine hX _ _ _ _ _ _ _ _ _ _ _ _ _ _ rfl ?_
        refine Or.inl ⟨_, _, hey, ?_⟩
        repeat refine hX _ _ _ _ _ _ _ _ _ _ _ _ _ _ rfl ?_
        refine br_f (show ¬ ¬ b2i (!true) = 0 by decide) ?_
        repeat refine hX _ _ _ _ _ _ _ _ _ _ _ _ _ _ rfl ?_
        exact ⟨Or.inl rfl, rfl, rfl⟩
      | false =>
        rw [hr2] at hey
        simp only [Bool.not_false, cond_true]
        have hn2 := m_isNumber S d hc m hR hb1 hB2 rd (upd rr (aNs T) (nI (tN tx L b1))) (nI b1) (mTk tx L b1) (nI (tN tx L b1)) (lo := 1) (hi := 30) (by decide) (by decide)
        cases hr3 : rng tx L b2 1 30 with
        | false =>
          rw [hr3] at hn2
          refine ⟨nI (tE tx L b2), nI b2, mTk tx L b2, mVl tx L b2, rd, upd rr (aNs T) (nI (tN tx L b1)), ?_, ⟨rfl, hb2⟩⟩
          (refine exI rfl rfl ?_; intro X hX)
          repeat refine hX _ _ _ _ _ _ _ _ _ _ _ _ _ _ rfl ?_
          refine ⟨by unfold vp_in; decide, ?_⟩
          rw [show (1 : Int32).toNatClampNeg = 1 from rfl]
          rw [hg1]
          repeat refine hX _ _ _ _ _ _ _ _ _ _ _ _ _ _ rfl ?_
          refine br_f (show ¬ nI (aNs T) = nI 6 from fun h => h6 ((nI_eq (by omega) (by decide)).mp h)) ?_
          repeat refine hX _ _ _ _ _ _ _ _ _ _ _ _ _ _ rfl ?_
          refine ⟨by unfold vp_in; decide, ?_⟩
          rw [show (0 : Int32).toNatClampNeg = 0 from rfl]
          rw [hg0]
          repeat refine hX _ _ _ _ _ _ _ _ _ _ _ _ _ _ rfl ?_
          rw [e1]
          refine Or.inl ⟨_, _, hn1, ?_⟩
          repeat refine hX _ _ _ _ _ _ _ _ _ _ _ _ _ _ rfl ?_
          refine br_f (show ¬ b2i true = 0 by decide) ?_
          repeat refine hX _ _ _ _ _ _ _ _ _ _ _ _ _ _ rfl ?_
          refine Or.inl ⟨_, _, hey, ?_⟩
          repeat refine hX _ _ _ _ _ _ _ _ _ _ _ _ _ _ rfl ?_
          refine br_t (show ¬ b2i (!false) = 0 by decide) ?_
          repeat refine hX _ _ _ _ _ _ _ _ _ _ _ _ _ _ rfl ?_
          refine ⟨vp_in_nI (by omega) (by decide), ?_⟩
          rw [nI_clamp (by omega)]
          rw [set_rr]
          repeat refine hX _ _ _ _ _ _ _ _ _ _ _ _ _ _ rfl ?_
          refine Or.inl ⟨_, _, hn2, ?_⟩
          repeat refine hX _ _ _ _ _ _ _ _ _ _ _ _ _ _ rfl ?_
          refine br_f (show ¬ ¬ b2i false = 0 by decide) ?_
          repeat refine hX _ _ _ _ _ _ _ _ _ _ _ _ _ _ rfl ?_
          exact ⟨Or.inl rfl, rfl, rfl⟩
        | true =>
          rw [hr3, rng_val hb2 (by omega) hr3] at hn2
          simp only [cond_true]
          have hi3 := m_isInsults S d hc m hR hb2 hB3 (upd rd (4 + aNs T) (nI (tN tx L b2))) (upd rr (aNs T) (nI (tN tx L b1))) (nI b2) (mTk tx L b2) (nI (tN tx L b2)) (most := 1) (by decide)
          cases hr4 : tI tx L b3 1 with
          | false =>
            rw [hr4] at hi3
            refine ⟨nI (tE tx L b3), nI b3, mTk tx L b3, mVl tx L b3, upd rd (4 + aNs T) (nI (tN tx L b2)), upd rr (aNs T) (nI (tN tx L b1)), ?_, ⟨rfl, hb3⟩⟩
            (refine exI rfl rfl ?_; intro X hX)
            repeat refine hX _ _ _ _ _ _ _ _ _ _ _ _ _ _ rfl ?_
            refine ⟨by unfold vp_in; decide, ?_⟩
            rw [show (1 : Int32).toNatClampNeg = 1 from rfl]
            rw [hg1]
            repeat refine hX _ _ _ _ _ _ _ _ _ _ _ _ _ _ rfl ?_
            refine br_f (show ¬ nI (aNs T) = nI 6 from fun h => h6 ((nI_eq (by omega) (by decide)).mp h)) ?_
            repeat refine hX _ _ _ _ _ _ _ _ _ _ _ _ _ _ rfl ?_
            refine ⟨by unfold vp_in; decide, ?_⟩
            rw [show (0 : Int32).toNatClampNeg = 0 from rfl]
            rw [hg0]
            repeat refine hX _ _ _ _ _ _ _ _ _ _ _ _ _ _ rfl ?_
            rw [e1]
            refine Or.inl ⟨_, _, hn1, ?_⟩
            repeat refine hX _ _ _ _ _ _ _ _ _ _ _ _ _ _ rfl ?_
            refine br_f (show ¬ b2i true = 0 by decide) ?_
            repeat refine hX _ _ _ _ _ _ _ _ _ _ _ _ _ _ rfl ?_
            refine Or.inl ⟨_, _, hey, ?_⟩
            repeat refine hX _ _ _ _ _ _ _ _ _ _ _ _ _ _ rfl ?_
            refine br_t (show ¬ b2i (!false) = 0 by decide) ?_
            repeat refine hX _ _ _ _ _ _ _ _ _ _ _ _ _ _ rfl ?_
            refine ⟨vp_in_nI (by omega) (by decide), ?_⟩
            rw [nI_clamp (by omega)]
            rw [set_rr]
            repeat refine hX _ _ _ _ _ _ _ _ _ _ _ _ _ _ rfl ?_
            refine Or.inl ⟨_, _, hn2, ?_⟩
            repeat refine hX _ _ _ _ _ _ _ _ _ _ _ _ _ _ rfl ?_
            refine br_t (show ¬ b2i true = 0 by decide) ?_
            repeat refine hX _ _ _ _ _ _ _ _ _ _ _ _ _ _ rfl ?_
            rw [show (4 : Int32) + nI (aNs T) = nI (4 + aNs T) from nI_add 4 (aNs T)]
            refine ⟨vp_in_nI (by omega) (by decide), ?_⟩
            rw [nI_clamp (by omega)]
            rw [set_rd]
            repeat refine hX _ _ _ _ _ _ _ _ _ _ _ _ _ _ rfl ?_
            refine Or.inl ⟨_, _, hi3, ?_⟩
            repeat refine hX _ _ _ _ _ _ _ _ _ _ _ _ _ _ rfl ?_
            refine br_f (show ¬ ¬ b2i false = 0 by decide) ?_
            repeat refine hX _ _ _ _ _ _ _ _ _ _ _ _ _ _ rfl ?_
            exact ⟨Or.inl rfl, rfl, rfl⟩
          | true =>
            rw [hr4] at hi3
            obtain ⟨hs1, hs2⟩ := tS_1 hr4
            simp only [cond_true, pEnd_is] at hi3 ⊢
            rw [hs1] at hi3
            have hen := m_isEnd S d hc m hR hb3 hB4 (upd (upd (upd rd (4 + aNs T) (nI (tN tx L b2))) (10 + aNs T) (nI (tx b3 - 97))) 1 (nI (aNs T + 1))) (upd rr (aNs T) (nI (tN tx L b1))) (nI b3) (mTk tx L b3) (nI (2 ^ (tx b3 - 97)))
            refine ⟨nI (tE tx L b4), nI b4, mTk tx L b4, mVl tx L b4, _, _, ?_, MPost_end hb4 si (PRel_sta hS (by omega) hnp (tN tx L b1) (tN tx L b2) (tx b3 - 97))⟩
            generalize hqq : tx b3 - 97 = q at *
            (refine exI rfl rfl ?_; intro X hX)
            repeat refine hX _ _ _ _ _ _ _ _ _ _ _ _ _ _ rfl ?_
            refine ⟨by unfold vp_in; decide, ?_⟩
            rw [show (1 : Int32).toNatClampNeg = 1 from rfl]
            rw [hg1]
            repeat refine hX _ _ _ _ _ _ _ _ _ _ _ _ _ _ rfl ?_
            refine br_f (show ¬ nI (aNs T) = nI 6 from fun h => h6 ((nI_eq (by omega) (by decide)).mp h)) ?_
            repeat refine hX _ _ _ _ _ _ _ _ _ _ _ _ _ _ rfl ?_
            refine ⟨by unfold vp_in; decide, ?_⟩
            rw [show (0 : Int32).toNatClampNeg = 0 from rfl]
            rw [hg0]
            repeat refine hX _ _ _ _ _ _ _ _ _ _ _ _ _ _ rfl ?_
            rw [e1]
            refine Or.inl ⟨_, _, hn1, ?_⟩
            repeat refine hX _ _ _ _ _ _ _ _ _ _ _ _ _ _ rfl ?_
            refine br_f (show ¬ b2i true = 0 by decide) ?_
            repeat refine hX _ _ _ _ _ _ _ _ _ _ _ _ _ _ rfl ?_
            refine Or.inl ⟨_, _, hey, ?_⟩
            repeat refine hX _ _ _ _ _ _ _ _ _ _ _ _ _ _ rfl ?_
            refine br_t (show ¬ b2i (!false) = 0 by decide) ?_
            repeat refine hX _ _ _ _ _ _ _ _ _ _ _ _ _ _ rfl ?_
            refine ⟨vp_in_nI (by omega) (by decide), ?_⟩
            rw [nI_clamp (by omega)]
            rw [set_rr]
            repeat refine hX _ _ _ _ _ _ _ _ _ _ _ _ _ _ rfl ?_
            refine Or.inl ⟨_, _, hn2, ?_⟩
            repeat refine hX _ _ _ _ _ _ _ _ _ _ _ _ _ _ rfl ?_
            refine br_t (show ¬ b2i true = 0 by decide) ?_
            repeat refine hX _ _ _ _ _ _ _ _ _ _ _ _ _ _ rfl ?_
            rw [show (4 : Int32) + nI (aNs T) = nI (4 + aNs T) from nI_add 4 (aNs T)]
            refine ⟨vp_in_nI (by omega) (by decide), ?_⟩
            rw [nI_clamp (by omega)]
            rw [set_rd]
            repeat refine hX _ _ _ _ _ _ _ _ _ _ _ _ _ _ rfl ?_
            refine Or.inl ⟨_, _, hi3, ?_⟩
            repeat refine hX _ _ _ _ _ _ _ _ _ _ _ _ _ _ rfl ?_
            refine br_t (show ¬ b2i true = 0 by decide) ?_
            have hq64 : 2 ^ q < 64 := Nat.pow_lt_pow_right (by decide) hs2
            have loop : ∀ (n i : Nat), i + n = q → X 88 [some (.ref 1000), some (.int (nI (aNs T))), some (.int (nI i))] [] (hc, hQ m (upd rd (4 + aNs T) (nI (tN tx L b2))) (upd rr (aNs T) (nI (tN tx L b1))) (nI (tE tx L b3)) (nI b3) (mTk tx L b3) (nI (2 ^ q))) 0 0 := by
              intro n
              induction n with
              | zero =>
                intro i hi
                have hi : i = q := by omega
                subst hi
                have hh := fun h => m_hasX S (d + 3) h hq64 hs2
                rw [Nat.testBit_two_pow_self] at hh
                have e9 : upd (upd rd (4 + aNs T) (nI (tN tx L b2))) (10 + aNs T) (nI i) 1 + 1 = nI (aNs T + 1) := by
                  rw [pk_un (by omega), pk_un (by omega), hg1, nI_1]
                repeat refine hX _ _ _ _ _ _ _ _ _ _ _ _ _ _ rfl ?_
                refine Or.inl ⟨_, _, hh _, ?_⟩
                repeat refine hX _ _ _ _ _ _ _ _ _ _ _ _ _ _ rfl ?_
                refine br_t (show ¬ b2i true = 0 by decide) ?_
                repeat refine hX _ _ _ _ _ _ _ _ _ _ _ _ _ _ rfl ?_
                rw [show (10 : Int32) + nI (aNs T) = nI (10 + aNs T) from nI_add 10 (aNs T)]
                refine ⟨vp_in_nI (by omega) (by decide), ?_⟩
                rw [nI_clamp (by omega)]
                rw [set_rd]
                repeat refine hX _ _ _ _ _ _ _ _ _ _ _ _ _ _ rfl ?_
                refine ⟨by unfold vp_in; decide, ?_⟩
                rw [show (1 : Int32).toNatClampNeg = 1 from rfl]
                repeat refine hX _ _ _ _ _ _ _ _ _ _ _ _ _ _ rfl ?_
                refine ⟨by unfold vp_in; decide, ?_⟩
                rw [show (1 : Int32).toNatClampNeg = 1 from rfl]
                rw [set_rd, e9]
                repeat refine hX _ _ _ _ _ _ _ _ _ _ _ _ _ _ rfl ?_
                refine Or.inl ⟨_, _, hen, ?_⟩
                repeat refine hX _ _ _ _ _ _ _ _ _ _ _ _ _ _ rfl ?_
                exact ⟨b2i_01 _, rfl, rfl⟩
              | succ n ih =>
                intro i hi
                have h7 := ih (i + 1) (by omega)
                have hh := fun h => m_hasX S (d + 3) h hq64 (show i < 6 by omega)
                rw [Nat.testBit_two_pow, decide_eq_false (show ¬ q = i by omega)] at hh
                repeat refine hX _ _ _ _ _ _ _ _ _ _ _ _ _ _ rfl ?_
                refine Or.inl ⟨_, _, hh _, ?_⟩
                repeat refine hX _ _ _ _ _ _ _ _ _ _ _ _ _ _ rfl ?_
                refine br_f (show ¬ ¬ b2i false = 0 by decide) ?_
                iterate 2 (refine hX _ _ _ _ _ _ _ _ _ _ _ _ _ _ rfl ?_)
                rw [nI_1]
                exact h7
            have h7 := loop q 0 (by omega)
            iterate 2 (refine hX _ _ _ _ _ _ _ _ _ _ _ _ _ _ rfl ?_)
            exact h7
theorem m_personItem (S : zS) (d : Nat) (hc : List zC) (m : mS) {tx : aF} {L b0 : Nat} {T : aT} {ya : aF} {si : Bool} (hR : QR m tx L) (hb0 : b0 ≤ L) (hP : PWf T ya) {rd rr : cF} (hS : PRel rd rr T ya) (k v : Int32) : ∃ sp be tk vl rd' rr', Ex S (d + 5) 0 0 104 [.ref 1000] (hc, hQ m rd rr (nI (tE tx L b0)) (nI b0) k v) (some (.int (b2i (isR (pOne tx L b0 T ya si))))) (hc, hQ m rd' rr' sp be tk vl) ∧ MPost tx L sp be rd' rr' (pOne tx L b0 T ya si) := by
  have hL := hR.1
  have hns := hP.1.2.2.2.1
  have hnp := hP.1.2.2.2.2.1
  have hny := hP.1.2.1
  have hny2 := hP.1.1
  have hg0 : rd 0 = nI (aNy T) := hS.1.1
  have hg1 : rd 1 = nI (aNs T) := hS.1.2.1
  have hg2 : rd 2 = nI (aNp T) := hS.1.2.2.1
  have e1 : nI (aNy T) - 1 = nI (aNy T - 1) := pk_sub (b := 1) (by omega)
  have hb1 := (nb_le tx hb0).2
  have hb2 := (nb_le tx hb1).2
  have hb3 := (nb_le tx hb2).2
  have hb4 := (nb_le tx hb3).2
  have hb5 := (nb_le tx hb4).2
  unfold pOne
  generalize hB1 : nb tx L b0 = b1 at *
  generalize hB2 : nb tx L b1 = b2 at *
  generalize hB3 : nb tx L b2 = b3 at *
  generalize hB4 : nb tx L b3 = b4 at *
  generalize hB5 : nb tx L b4 = b5 at *
  by_cases h6 : aNp T = 6
  · rw [decide_eq_true h6]
    refine ⟨nI (tE tx L b0), nI b0, k, v, rd, rr, ?_, ⟨rfl, hb0⟩⟩
    (refine exI rfl rfl ?_; intro X hX)
    repeat refine hX _ _ _ _ _ _ _ _ _ _ _ _ _ _ rfl ?_
    refine ⟨by unfold vp_in; decide, ?_⟩
    rw [show (2 : Int32).toNatClampNeg = 2 from rfl]
    rw [hg2]
    repeat refine hX _ _ _ _ _ _ _ _ _ _ _ _ _ _ rfl ?_
    refine br_t (show nI (aNp T) = nI 6 from congrArg nI h6) ?_
    repeat refine hX _ _ _ _ _ _ _ _ _ _ _ _ _ _ rfl ?_
    exact ⟨Or.inl rfl, rfl, rfl⟩
  · rw [decide_eq_false h6]
    simp only [cond_false]
    have hn1 := m_isNumber S d hc m hR hb0 hB1 (rd) rr (nI b0) k v (lo := 0) (hi := aNy T - 1) (by decide) (by omega)
    cases hr1 : rng tx L b1 0 (aNy T - 1) with
    | false =>
      rw [hr1] at hn1
      refine ⟨nI (tE tx L b1), nI b1, mTk tx L b1, mVl tx L b1, rd, rr, ?_, ⟨rfl, hb1⟩⟩
      (refine exI rfl rfl ?_; intro X hX)
      repeat refine hX _ _ _ _ _ _ _ _ _ _ _ _ _ _ rfl ?_
      refine ⟨by unfold vp_in; decide, ?_⟩
      rw [show (2 : Int32).toNatClampNeg = 2 from rfl]
      rw [hg2]
      repeat refine hX _ _ _ _ _ _ _ _ _ _ _ _ _ _ rfl ?_
      refine br_f (show ¬ nI (aNp T) = nI 6 from fun h => h6 ((nI_eq (by omega) (by decide)).mp h)) ?_
      repeat refine hX _ _ _ _ _ _ _ _ _ _ _ _ _ _ rfl ?_
      refine ⟨by unfold vp_in; decide, ?_⟩
      rw [show (0 : Int32).toNatClampNeg = 0 from rfl]
      rw [hg0]
      repeat refine hX _ _ _ _ _ _ _ _ _ _ _ _ _ _ rfl ?_
      rw [e1]
      refine Or.inl ⟨_, _, hn1, ?_⟩
      repeat refine hX _ _ _ _ _ _ _ _ _ _ _ _ _ _ rfl ?_
      refine br_f (show ¬ ¬ b2i false = 0 by decide) ?_
      repeat refine hX _ _ _ _ _ _ _ _ _ _ _ _ _ _ rfl ?_
      exact ⟨Or.inl rfl, rfl, rfl⟩
    | true =>
      rw [hr1, rng_val hb1 (by omega) hr1] at hn1
      simp only [cond_true]
      have hn2 := m_isNumber S d hc m hR hb1 hB2 (upd (rd) (16 + aNp T) (nI (tN tx L b1))) rr (nI b1) (mTk tx L b1) (nI (tN tx L b1)) (lo := 1) (hi := 9) (by decide) (by omega)
      cases hr2 : rng tx L b2 1 (9) with
      | false =>
        rw [hr2] at hn2
        refine ⟨nI (tE tx L b2), nI b2, mTk tx L b2, mVl tx L b2, upd (rd) (16 + aNp T) (nI (tN tx L b1)), rr, ?_, ⟨rfl, hb2⟩⟩
        (refine exI rfl rfl ?_; intro X hX)
        repeat refine hX _ _ _ _ _ _ _ _ _ _ _ _ _ _ rfl ?_
        refine ⟨by unfold vp_in; decide, ?_⟩
        rw [show (2 : Int32).toNatClampNeg = 2 from rfl]
        rw [hg2]
        repeat refine hX _ _ _ _ _ _ _ _ _ _ _ _ _ _ rfl ?_
        refine br_f (show ¬ nI (aNp T) = nI 6 from fun h => h6 ((nI_eq (by omega) (by decide)).mp h)) ?_
        repeat refine hX _ _ _ _ _ _ _ _ _ _ _ _ _ _ rfl ?_
        refine ⟨by unfold vp_in; decide, ?_⟩
        rw [show (0 : Int32).toNatClampNeg = 0 from rfl]
        rw [hg0]
        repeat refine hX _ _ _ _ _ _ _ _ _ _ _ _ _ _ rfl ?_
        rw [e1]
        refine Or.inl ⟨_, _, hn1, ?_⟩
        repeat refine hX _ _ _ _ _ _ _ _ _ _ _ _ _ _ rfl ?_
        refine br_t (show ¬ b2i true = 0 by decide) ?_
        repeat refine hX _ _ _ _ _ _ _ _ _ _ _ _ _ _ rfl ?_
        rw [show (16 : Int32) + nI (aNp T) = nI (16 + aNp T) from nI_add 16 (aNp T)]
        refine ⟨vp_in_nI (by omega) (by decide), ?_⟩
        rw [nI_clamp (by omega)]
        rw [set_rd]
        repeat refine hX _ _ _ _ _ _ _ _ _ _ _ _ _ _ rfl ?_
        refine Or.inl ⟨_, _, hn2, ?_⟩
        repeat refine hX _ _ _ _ _ _ _ _ _ _ _ _ _ _ rfl ?_
        refine br_f (show ¬ ¬ b2i false = 0 by decide) ?_
        repeat refine hX _ _ _ _ _ _ _ _ _ _ _ _ _ _ rfl ?_
        exact ⟨Or.inl rfl, rfl, rfl⟩
      | true =>
        rw [hr2, rng_val hb2 (by omega) hr2] at hn2
        simp only [cond_true]
        have hn3 := m_isNumber S d hc m hR hb2 hB3 (upd (upd (rd) (16 + aNp T) (nI (tN tx L b1))) (22 + aNp T) (nI (tN tx L b2))) rr (nI b2) (mTk tx L b2) (nI (tN tx L b2)) (lo := 0) (hi := 3) (by decide) (by omega)
        cases hr3 : rng tx L b3 0 (3) with
        | false =>
          rw [hr3] at hn3
          refine ⟨nI (tE tx L b3), nI b3, mTk tx L b3, mVl tx L b3, upd (upd (rd) (16 + aNp T) (nI (tN tx L b1))) (22 + aNp T) (nI (tN tx L b2)), rr, ?_, ⟨rfl, hb3⟩⟩
          (refine exI rfl rfl ?_; intro X hX)
          repeat refine hX _ _ _ _ _ _ _ _ _ _ _ _ _ _ rfl ?_
          refine ⟨by unfold vp_in; decide, ?_⟩
          rw [show (2 : Int32).toNatClampNeg = 2 from rfl]
          rw [hg2]
          repeat refine hX _ _ _ _ _ _ _ _ _ _ _ _ _ _ rfl ?_
          refine br_f (show ¬ nI (aNp T) = nI 6 from fun h => h6 ((nI_eq (by omega) (by decide)).mp h)) ?_
          repeat refine hX _ _ _ _ _ _ _ _ _ _ _ _ _ _ rfl ?_
          refine ⟨by unfold vp_in; decide, ?_⟩
          rw [show (0 : Int32).toNatClampNeg = 0 from rfl]
          rw [hg0]
          repeat refine hX _ _ _ _ _ _ _ _ _ _ _ _ _ _ rfl ?_
          rw [e1]
          refine Or.inl ⟨_, _, hn1, ?_⟩
          repeat refine hX _ _ _ _ _ _ _ _ _ _ _ _ _ _ rfl ?_
          refine br_t (show ¬ b2i true = 0 by decide) ?_
          repeat refine hX _ _ _ _ _ _ _ _ _ _ _ _ _ _ rfl ?_
          rw [show (16 : Int32) + nI (aNp T) = nI (16 + aNp T) from nI_add 16 (aNp T)]
          refine ⟨vp_in_nI (by omega) (by decide), ?_⟩
          rw [nI_clamp (by omega)]
          rw [set_rd]
          repeat refine hX _ _ _ _ _ _ _ _ _ _ _ _ _ _ rfl ?_
          refine Or.inl ⟨_, _, hn2, ?_⟩
          repeat refine hX _ _ _ _ _ _ _ _ _ _ _ _ _ _ rfl ?_
          refine br_t (show ¬ b2i true = 0 by decide) ?_
          repeat refine hX _ _ _ _ _ _ _ _ _ _ _ _ _ _ rfl ?_
          rw [show (22 : Int32) + nI (aNp T) = nI (22 + aNp T) from nI_add 22 (aNp T)]
          refine ⟨vp_in_nI (by omega) (by decide), ?_⟩
          rw [nI_clamp (by omega)]
          rw [set_rd]
          repeat refine hX _ _ _ _ _ _ _ _ _ _ _ _ _ _ rfl ?_
          refine Or.inl ⟨_, _, hn3, ?_⟩
          repeat refine hX _ _ _ _ _ _ _ _ _ _ _ _ _ _ rfl ?_
          refine br_f (show ¬ ¬ b2i false = 0 by decide) ?_
          repeat refine hX _ _ _ _ _ _ _ _ _ _ _ _ _ _ rfl ?_
          exact ⟨Or.inl rfl, rfl, rfl⟩
        | true =>
          rw [hr3, rng_val hb3 (by omega) hr3] at hn3
          simp only [cond_true]
          have hi4 := m_isInsults S d hc m hR hb3 hB4 (upd (upd (upd (rd) (16 + aNp T) (nI (tN tx L b1))) (22 + aNp T) (nI (tN tx L b2))) (28 + aNp T) (nI (tN tx L b3))) rr (nI b3) (mTk tx L b3) (nI (tN tx L b3)) (most := 6) (by decide)
          cases hr4 : tI tx L b4 6 with
          | false =>
            rw [hr4] at hi4
            refine ⟨nI (tE tx L b4), nI b4, mTk tx L b4, mVl tx L b4, upd (upd (upd (rd) (16 + aNp T) (nI (tN tx L b1))) (22 + aNp T) (nI (tN tx L b2))) (28 + aNp T) (nI (tN tx L b3)), rr, ?_, ⟨rfl, hb4⟩⟩
            (refine exI rfl rfl ?_; intro X hX)
            repeat refine hX _ _ _ _ _ _ _ _ _ _ _ _ _ _ rfl ?_
            refine ⟨by unfold vp_in; decide, ?_⟩
            rw [show (2 : Int32).toNatClampNeg = 2 from rfl]
            rw [hg2]
            repeat refine hX _ _ _ _ _ _ _ _ _ _ _ _ _ _ rfl ?_
            refine br_f (show ¬ nI (aNp T) = nI 6 from fun h => h6 ((nI_eq (by omega) (by decide)).mp h)) ?_
            repeat refine hX _ _ _ _ _ _ _ _ _ _ _ _ _ _ rfl ?_
            refine ⟨by unfold vp_in; decide, ?_⟩
            rw [show (0 : Int32).toNatClampNeg = 0 from rfl]
            rw [hg0]
            repeat refine hX _ _ _ _ _ _ _ _ _ _ _ _ _ _ rfl ?_
            rw [e1]
            refine Or.inl ⟨_, _, hn1, ?_⟩
            repeat refine hX _ _ _ _ _ _ _ _ _ _ _ _ _ _ rfl ?_
            refine br_t (show ¬ b2i true = 0 by decide) ?_
            repeat refine hX _ _ _ _ _ _ _ _ _ _ _ _ _ _ rfl ?_
            rw [show (16 : Int32) + nI (aNp T) = nI (16 + aNp T) from nI_add 16 (aNp T)]
            refine ⟨vp_in_nI (by omega) (by decide), ?_⟩
            rw [nI_clamp (by omega)]
            rw [set_rd]
            repeat refine hX _ _ _ _ _ _ _ _ _ _ _ _ _ _ rfl ?_
            refine Or.inl ⟨_, _, hn2, ?_⟩
            repeat refine hX _ _ _ _ _ _ _ _ _ _ _ _ _ _ rfl ?_
            refine br_t (show ¬ b2i true = 0 by decide) ?_
            repeat refine hX _ _ _ _ _ _ _ _ _ _ _ _ _ _ rfl ?_
            rw [show (22 : Int32) + nI (aNp T) = nI (22 + aNp T) from nI_add 22 (aNp T)]
            refine ⟨vp_in_nI (by omega) (by decide), ?_⟩
            rw [nI_clamp (by omega)]
            rw [set_rd]
            repeat refine hX _ _ _ _ _ _ _ _ _ _ _ _ _ _ rfl ?_
            refine Or.inl ⟨_, _, hn3, ?_⟩
            repeat refine hX _ _ _ _ _ _ _ _ _ _ _ _ _ _ rfl ?_
            refine br_t (show ¬ b2i true = 0 by decide) ?_
            repeat refine hX _ _ _ _ _ _ _ _ _ _ _ _ _ _ rfl ?_
            rw [show (28 : Int32) + nI (aNp T) = nI (28 + aNp T) from nI_add 28 (aNp T)]
            refine ⟨vp_in_nI (by omega) (by decide), ?_⟩
            rw [nI_clamp (by omega)]
            rw [set_rd]
            repeat refine hX _ _ _ _ _ _ _ _ _ _ _ _ _ _ rfl ?_
            refine Or.inl ⟨_, _, hi4, ?_⟩
            repeat refine hX _ _ _ _ _ _ _ _ _ _ _ _ _ _ rfl ?_
            refine br_f (show ¬ ¬ b2i false = 0 by decide) ?_
            repeat refine hX _ _ _ _ _ _ _ _ _ _ _ _ _ _ rfl ?_
            exact ⟨Or.inl rfl, rfl, rfl⟩
          | true =>
            rw [hr4] at hi4
            simp only [cond_true, pEnd_is] at hi4 ⊢
            have e9 : (upd (upd (upd (upd (rd) (16 + aNp T) (nI (tN tx L b1))) (22 + aNp T) (nI (tN tx L b2))) (28 + aNp T) (nI (tN tx L b3))) (34 + aNp T) (nI (tS tx L b4))) 2 + 1 = nI (aNp T + 1) := by
              rw [pk_un (by omega), pk_un (by omega), pk_un (by omega), pk_un (by omega), hg2, nI_1]
            have hen := m_isEnd S d hc m hR hb4 hB5 (upd (upd (upd (upd (upd (rd) (16 + aNp T) (nI (tN tx L b1))) (22 + aNp T) (nI (tN tx L b2))) (28 + aNp T) (nI (tN tx L b3))) (34 + aNp T) (nI (tS tx L b4))) 2 (nI (aNp T + 1))) rr (nI b4) (mTk tx L b4) (nI (tS tx L b4))
            refine ⟨nI (tE tx L b5), nI b5, mTk tx L b5, mVl tx L b5, _, _, ?_, MPost_end hb5 si (PRel_one hS (by omega) hns (tN tx L b1) (tN tx L b2) (tN tx L b3) (tS tx L b4))⟩
            (refine exI rfl rfl ?_; intro X hX)
            repeat refine hX _ _ _ _ _ _ _ _ _ _ _ _ _ _ rfl ?_
            refine ⟨by unfold vp_in; decide, ?_⟩
            rw [show (2 : Int32).toNatClampNeg = 2 from rfl]
            rw [hg2]
            repeat refine hX _ _ _ _ _ _ _ _ _ _ _ _ _ _ rfl ?_
            refine br_f (show ¬ nI (aNp T) = nI 6 from fun h => h6 ((nI_eq (by omega) (by decide)).mp h)) ?_
            repeat refine hX _ _ _ _ _ _ _ _ _ _ _ _ _ _ rfl ?_
            refine ⟨by unfold vp_in; decide, ?_⟩
            rw [show (0 : Int32).toNatClampNeg = 0 from rfl]
            rw [hg0]
            repeat refine hX _ _ _ _ _ _ _ _ _ _ _ _ _ _ rfl ?_
            rw [e1]
            refine Or.inl ⟨_, _, hn1, ?_⟩
            repeat refine hX _ _ _ _ _ _ _ _ _ _ _ _ _ _ rfl ?_
            refine br_t (show ¬ b2i true = 0 by decide) ?_
            repeat refine hX _ _ _ _ _ _ _ _ _ _ _ _ _ _ rfl ?_
            rw [show (16 : Int32) + nI (aNp T) = nI (16 + aNp T) from nI_add 16 (aNp T)]
            refine ⟨vp_in_nI (by omega) (by decide), ?_⟩
            rw [nI_clamp (by omega)]
            rw [set_rd]
            repeat refine hX _ _ _ _ _ _ _ _ _ _ _ _ _ _ rfl ?_
            refine Or.inl ⟨_, _, hn2, ?_⟩
            repeat refine hX _ _ _ _ _ _ _ _ _ _ _ _ _ _ rfl ?_
            refine br_t (show ¬ b2i true = 0 by decide) ?_
            repeat refine hX _ _ _ _ _ _ _ _ _ _ _ _ _ _ rfl ?_
            rw [show (22 : Int32) + nI (aNp T) = nI (22 + aNp T) from nI_add 22 (aNp T)]
            refine ⟨vp_in_nI (by omega) (by decide), ?_⟩
            rw [nI_clamp (by omega)]
            rw [set_rd]
            repeat refine hX _ _ _ _ _ _ _ _ _ _ _ _ _ _ rfl ?_
            refine Or.inl ⟨_, _, hn3, ?_⟩
            repeat refine hX _ _ _ _ _ _ _ _ _ _ _ _ _ _ rfl ?_
            refine br_t (show ¬ b2i true = 0 by decide) ?_
            repeat refine hX _ _ _ _ _ _ _ _ _ _ _ _ _ _ rfl ?_
            rw [show (28 : Int32) + nI (aNp T) = nI (28 + aNp T) from nI_add 28 (aNp T)]
            refine ⟨vp_in_nI (by omega) (by decide), ?_⟩
            rw [nI_clamp (by omega)]
            rw [set_rd]
            repeat refine hX _ _ _ _ _ _ _ _ _ _ _ _ _ _ rfl ?_
            refine Or.inl ⟨_, _, hi4, ?_⟩
            repeat refine hX _ _ _ _ _ _ _ _ _ _ _ _ _ _ rfl ?_
            refine br_t (show ¬ b2i true = 0 by decide) ?_
            repeat refine hX _ _ _ _ _ _ _ _ _ _ _ _ _ _ rfl ?_
            rw [show (34 : Int32) + nI (aNp T) = nI (34 + aNp T) from nI_add 34 (aNp T)]
            refine ⟨vp_in_nI (by omega) (by decide), ?_⟩
            rw [nI_clamp (by omega)]
            rw [set_rd]
            repeat refine hX _ _ _ _ _ _ _ _ _ _ _ _ _ _ rfl ?_
            refine ⟨by unfold vp_in; decide, ?_⟩
            rw [show (2 : Int32).toNatClampNeg = 2 from rfl]
            repeat refine hX _ _ _ _ _ _ _ _ _ _ _ _ _ _ rfl ?_
            refine ⟨by unfold vp_in; decide, ?_⟩
            rw [show (2 : Int32).toNatClampNeg = 2 from rfl]
            rw [set_rd, e9]
            repeat refine hX _ _ _ _ _ _ _ _ _ _ _ _ _ _ rfl ?_
            refine Or.inl ⟨_, _, hen, ?_⟩
            repeat refine hX _ _ _ _ _ _ _ _ _ _ _ _ _ _ rfl ?_
            exact ⟨b2i_01 _, rfl, rfl⟩
