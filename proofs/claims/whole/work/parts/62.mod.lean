/-! ===== the reference: numbers, ends, insults ===== -/
theorem mTk_2 {tx : aF} {L b : Nat} (hb : b ≤ L) : (mTk tx L b = 2 ∧ tN tx L b < 100 ∧ mVl tx L b = nI (tN tx L b)) ∨ (mTk tx L b ≠ 2 ∧ tN tx L b = 100) := by
  unfold mTk mVl
  by_cases h2 : tK tx L b = 2
  · rw [if_pos h2, if_neg (show ¬ tK tx L b = 1 by omega), if_pos h2]
    obtain ⟨hbl, hk⟩ := tK_2 h2
    have hte := (tE_le tx hb).2.2 hbl
    have d0 := kOf_2 hk
    by_cases h3 : tE tx L b - b < 3
    · by_cases h1 : tE tx L b - b = 1
      · left
        rw [show okN tx L b = true by unfold okN; rw [decide_eq_true h3, decide_eq_true h1, Bool.or_true]; rfl, show tN tx L b = tx b - 48 by unfold tN; rw [if_pos h2, if_pos h1], h1]
        exact ⟨rfl, by omega, rfl⟩
      · by_cases h48 : tx b = 48
        · right
          rw [show okN tx L b = false by unfold okN; rw [decide_eq_false h1, Bool.or_false, decide_eq_false (show ¬ tx b ≠ 48 from fun h => h h48), Bool.and_false], show tN tx L b = 100 by unfold tN; rw [if_pos h2, if_neg h1, if_neg (fun h => h.2 h48)]]
          exact ⟨by decide, rfl⟩
        · left
          have h22 : tE tx L b - b = 2 := by omega
          have d1 := kOf_2 ((tE_all tx (L := L) (b := b) (i := b + 1) (by omega) (by omega)).trans hk)
          rw [show okN tx L b = true by unfold okN; rw [decide_eq_true h3, decide_eq_true h48]; rfl, show tN tx L b = 10 * (tx b - 48) + (tx (b + 1) - 48) by unfold tN; rw [if_pos h2, if_neg h1, if_pos ⟨h22, h48⟩], h22]
          exact ⟨rfl, by omega, rfl⟩
    · right
      rw [show okN tx L b = false by unfold okN; rw [decide_eq_false h3]; rfl, show tN tx L b = 100 by unfold tN; rw [if_pos h2, if_neg (by omega), if_neg (by omega)]]
      exact ⟨by decide, rfl⟩
  · right
    rw [if_neg h2]
    refine ⟨?_, by unfold tN; rw [if_neg h2]⟩
    have := tK_le tx L b
    by_cases h4 : tK tx L b = 4
    · rw [if_pos h4]; decide
    · rw [if_neg h4]
      exact fun h => h2 ((nI_eq (b := 2) (by omega) (by decide)).mp h)
theorem mTk_k {tx : aF} {L b k : Nat} (hk : k = 0 ∨ k = 1 ∨ k = 3) : mTk tx L b = nI k ↔ tK tx L b = k := by
  unfold mTk
  have := tK_le tx L b
  by_cases h2 : tK tx L b = 2
  · rw [if_pos h2, h2]
    refine ⟨fun h => ?_, fun h => by omega⟩
    exfalso
    generalize okN tx L b = u at h
    rcases hk with rfl | rfl | rfl <;> cases u <;> revert h <;> decide
  · rw [if_neg h2]
    by_cases h4 : tK tx L b = 4
    · rw [if_pos h4, h4]
      refine ⟨fun h => ?_, fun h => by omega⟩
      exfalso
      rcases hk with rfl | rfl | rfl <;> revert h <;> decide
    · rw [if_neg h4]
      exact nI_eq (by omega) (by omega)
theorem in_rng {lo hi v : Nat} (h1 : lo < 2 ^ 30) (h2 : hi < 2 ^ 30) (h3 : v < 2 ^ 30) : (decide ((nI lo).toInt64 ≤ (nI v).toInt64) && decide ((nI v).toInt64 ≤ (nI hi).toInt64)) = (decide (lo ≤ v) && decide (v ≤ hi)) := by
  simp only [Int64.le_iff_toInt_le, Int32.toInt_toInt64, nI_toInt (show lo < 2 ^ 31 by omega), nI_toInt (show hi < 2 ^ 31 by omega), nI_toInt (show v < 2 ^ 31 by omega)]
  congr 1 <;> exact decide_eq_decide.mpr (by omega)
theorem m_isNumber (S : zS) (d : Nat) (hc : List zC) (m : mS) {tx : aF} {L b0 b : Nat} (hR : QR m tx L) (hb0 : b0 ≤ L) (hb : nb tx L b0 = b) (rd rr : cF) (x k v : Int32) {lo hi : Nat} (hlo : lo < 100) (hhi : hi < 100) : Ex S (d + 4) 0 0 99 [.ref 1000, .int (nI lo), .int (nI hi)] (hc, hQ m rd rr (nI (tE tx L b0)) x k v) (some (.int (b2i (rng tx L b lo hi)))) (hc, hQ m rd rr (nI (tE tx L b)) (nI b) (mTk tx L b) (mVl tx L b)) := by
  have hbL : b ≤ L := hb ▸ (nb_le tx hb0).2
  have hnx := m_next S d hc m hR (tE_le tx hb0).2.1 hb rd rr x k v
  (refine exI rfl rfl ?_; intro X hX)
  repeat refine hX _ _ _ _ _ _ _ _ _ _ _ _ _ _ rfl ?_
  refine Or.inl ⟨_, _, hnx, ?_⟩
  repeat refine hX _ _ _ _ _ _ _ _ _ _ _ _ _ _ rfl ?_
  rcases mTk_2 (tx := tx) hbL with ⟨h2, hl, hv⟩ | ⟨h2, hl⟩
  · refine br_f (show ¬ ¬ mTk tx L b = 2 from fun h => h h2) ?_
    have hin := fun h => m_in S (d + 2) h (mVl tx L b).toInt64 (nI lo).toInt64 (nI hi).toInt64
    rw [show (decide ((nI lo).toInt64 ≤ (mVl tx L b).toInt64) && decide ((mVl tx L b).toInt64 ≤ (nI hi).toInt64)) = rng tx L b lo hi from by rw [hv]; exact in_rng (by omega) (by omega) (by omega)] at hin
    repeat refine hX _ _ _ _ _ _ _ _ _ _ _ _ _ _ rfl ?_
    refine Or.inl ⟨_, _, hin _, ?_⟩
    repeat refine hX _ _ _ _ _ _ _ _ _ _ _ _ _ _ rfl ?_
    cases hg : rng tx L b lo hi with
    | false =>
      refine br_t (show b2i false = 0 from rfl) ?_
      repeat refine hX _ _ _ _ _ _ _ _ _ _ _ _ _ _ rfl ?_
      exact ⟨Or.inl rfl, by rw [hg]; rfl, rfl⟩
    | true =>
      refine br_f (show ¬ b2i true = 0 by decide) ?_
      repeat refine hX _ _ _ _ _ _ _ _ _ _ _ _ _ _ rfl ?_
      exact ⟨Or.inr rfl, by rw [hg]; rfl, rfl⟩
  · refine br_t (show ¬ mTk tx L b = 2 from h2) ?_
    repeat refine hX _ _ _ _ _ _ _ _ _ _ _ _ _ _ rfl ?_
    exact ⟨Or.inl rfl, by unfold rng; rw [hl, decide_eq_false (show ¬ 100 ≤ hi by omega), Bool.and_false]; rfl, rfl⟩
theorem m_isEnd (S : zS) (d : Nat) (hc : List zC) (m : mS) {tx : aF} {L b0 b : Nat} (hR : QR m tx L) (hb0 : b0 ≤ L) (hb : nb tx L b0 = b) (rd rr : cF) (x k v : Int32) : Ex S (d + 4) 0 0 100 [.ref 1000] (hc, hQ m rd rr (nI (tE tx L b0)) x k v) (some (.int (b2i (decide (tK tx L b = 3))))) (hc, hQ m rd rr (nI (tE tx L b)) (nI b) (mTk tx L b) (mVl tx L b)) := by
  have hnx := m_next S d hc m hR (tE_le tx hb0).2.1 hb rd rr x k v
  (refine exI rfl rfl ?_; intro X hX)
  repeat refine hX _ _ _ _ _ _ _ _ _ _ _ _ _ _ rfl ?_
  refine Or.inl ⟨_, _, hnx, ?_⟩
  repeat refine hX _ _ _ _ _ _ _ _ _ _ _ _ _ _ rfl ?_
  by_cases h : tK tx L b = 3
  · refine br_f (show ¬ ¬ mTk tx L b = nI 3 from fun g => g ((mTk_k (by decide)).mpr h)) ?_
    repeat refine hX _ _ _ _ _ _ _ _ _ _ _ _ _ _ rfl ?_
    exact ⟨Or.inr rfl, by rw [decide_eq_true h]; rfl, rfl⟩
  · refine br_t (show ¬ mTk tx L b = nI 3 from fun g => h ((mTk_k (by decide)).mp g)) ?_
    repeat refine hX _ _ _ _ _ _ _ _ _ _ _ _ _ _ rfl ?_
    exact ⟨Or.inl rfl, by rw [decide_eq_false h]; rfl, rfl⟩
theorem m_isInsults (S : zS) (d : Nat) (hc : List zC) (m : mS) {tx : aF} {L b0 b : Nat} (hR : QR m tx L) (hb0 : b0 ≤ L) (hb : nb tx L b0 = b) (rd rr : cF) (x k v : Int32) {most : Nat} (hmo : most < 100) : Ex S (d + 4) 0 0 101 [.ref 1000, .int (nI most)] (hc, hQ m rd rr (nI (tE tx L b0)) x k v) (some (.int (b2i (tI tx L b most)))) (hc, hQ m rd rr (nI (tE tx L b)) (nI b) (mTk tx L b) (bif tI tx L b most then nI (tS tx L b) else mVl tx L b)) := by
  have hbL : b ≤ L := hb ▸ (nb_le tx hb0).2
  have hte := tE_le tx hbL
  have hnx := m_next S d hc m hR (tE_le tx hb0).2.1 hb rd rr x k v
  obtain ⟨hL, hl, htx, hlt⟩ := hR
  unfold tI tS
  by_cases h1 : tK tx L b = 1
  · have hv : mVl tx L b = nI (tE tx L b - b) := by unfold mVl; rw [if_pos h1]
    obtain ⟨hbl, hk⟩ := tK_1 h1
    rw [decide_eq_true h1, Bool.true_and]
    by_cases h2 : tE tx L b - b ≤ most
    · rw [decide_eq_true h2, Bool.true_and]
      (refine exI rfl rfl ?_; intro X hX)
      repeat refine hX _ _ _ _ _ _ _ _ _ _ _ _ _ _ rfl ?_
      refine Or.inl ⟨_, _, hnx, ?_⟩
      repeat refine hX _ _ _ _ _ _ _ _ _ _ _ _ _ _ rfl ?_
      refine br_f (show ¬ ¬ mTk tx L b = nI 1 from fun g => g ((mTk_k (by decide)).mpr h1)) ?_
      repeat refine hX _ _ _ _ _ _ _ _ _ _ _ _ _ _ rfl ?_
      refine br_t (show mVl tx L b ≤ nI most from by rw [hv]; exact nI_le h2 (by omega)) ?_
      have hat := fun i h1 h2 => kOf_1 ((tE_all tx (L := L) (b := b) (i := i) h1 h2).trans hk)
      generalize tE tx L b = e at *
      have loop : ∀ (n i w : Nat), i + n = e → b ≤ i → lowF tx n i = lowF tx (e - b) b → setF tx n i w = setF tx (e - b) b 0 → X 29 [some (.ref 1000), some (.int (nI most)), some (.int (nI w)), some (.int (nI i))] [] (hc, hQ m rd rr (nI e) (nI b) (mTk tx L b) (mVl tx L b)) 0 0 := by
        intro n
        induction n with
        | zero =>
          intro i w hi hbi hf hs
          rw [lowF] at hf
          rw [setF] at hs
          repeat refine hX _ _ _ _ _ _ _ _ _ _ _ _ _ _ rfl ?_
          refine br_t (show nI e ≤ nI i from nI_le (by omega) (by omega)) ?_
          iterate 4 (refine hX _ _ _ _ _ _ _ _ _ _ _ _ _ _ rfl ?_)
          rw [set_vl]
          repeat refine hX _ _ _ _ _ _ _ _ _ _ _ _ _ _ rfl ?_
          exact ⟨Or.inr rfl, by rw [← hf]; rfl, by rw [← hf, ← hs]; rfl⟩
        | succ n ih =>
          intro i w hi hbi hf hs
          have di := hat i hbi (by omega)
          have hxi := htx i (by omega)
          rw [lowF] at hf
          rw [setF] at hs
          repeat refine hX _ _ _ _ _ _ _ _ _ _ _ _ _ _ rfl ?_
          refine br_f (show ¬ nI e ≤ nI i from nI_ge (by omega) (by omega)) ?_
          repeat refine hX _ _ _ _ _ _ _ _ _ _ _ _ _ _ rfl ?_
          refine ⟨vp_in_nI (by omega) (by decide), ?_⟩
          rw [nI_clamp (by omega)]
          rw [hxi]
          repeat refine hX _ _ _ _ _ _ _ _ _ _ _ _ _ _ rfl ?_
          by_cases h102 : tx i ≤ 102
          · refine br_t (show nI (tx i) ≤ nI 102 from nI_le h102 (by omega)) ?_
            rw [decide_eq_true h102, Bool.true_and] at hf
            have h7 := ih (i + 1) _ (by omega) (by omega) hf hs
            repeat refine hX _ _ _ _ _ _ _ _ _ _ _ _ _ _ rfl ?_
            refine ⟨vp_in_nI (by omega) (by decide), ?_⟩
            rw [nI_clamp (by omega)]
            rw [hxi]
            iterate 3 (refine hX _ _ _ _ _ _ _ _ _ _ _ _ _ _ rfl ?_)
            rw [show nI (tx i) - 97 = nI (tx i - 97) from pk_sub (b := 97) di.1]
            iterate 1 (refine hX _ _ _ _ _ _ _ _ _ _ _ _ _ _ rfl ?_)
            rw [q_shl _ (show tx i - 97 < 12 by omega)]
            iterate 3 (refine hX _ _ _ _ _ _ _ _ _ _ _ _ _ _ rfl ?_)
            rw [nI_1, nI_or]
            exact h7
          · refine br_f (show ¬ nI (tx i) ≤ nI 102 from nI_ge (by omega) (by omega)) ?_
            rw [decide_eq_false h102, Bool.false_and] at hf
            repeat refine hX _ _ _ _ _ _ _ _ _ _ _ _ _ _ rfl ?_
            exact ⟨Or.inl rfl, by rw [← hf]; rfl, by rw [← hf]; rfl⟩
      have h7 := loop (e - b) b 0 (by omega) (Nat.le_refl _) rfl rfl
      iterate 5 (refine hX _ _ _ _ _ _ _ _ _ _ _ _ _ _ rfl ?_)
      exact h7
    · rw [decide_eq_false h2, Bool.false_and]
      (refine exI rfl rfl ?_; intro X hX)
      repeat refine hX _ _ _ _ _ _ _ _ _ _ _ _ _ _ rfl ?_
      refine Or.inl ⟨_, _, hnx, ?_⟩
      repeat refine hX _ _ _ _ _ _ _ _ _ _ _ _ _ _ rfl ?_
      refine br_f (show ¬ ¬ mTk tx L b = nI 1 from fun g => g ((mTk_k (by decide)).mpr h1)) ?_
      repeat refine hX _ _ _ _ _ _ _ _ _ _ _ _ _ _ rfl ?_
      refine br_f (show ¬ mVl tx L b ≤ nI most from by rw [hv]; exact nI_ge (by omega) (by omega)) ?_
      repeat refine hX _ _ _ _ _ _ _ _ _ _ _ _ _ _ rfl ?_
      exact ⟨Or.inl rfl, rfl, rfl⟩
  · rw [decide_eq_false h1, Bool.false_and]
    (refine exI rfl rfl ?_; intro X hX)
    repeat refine hX _ _ _ _ _ _ _ _ _ _ _ _ _ _ rfl ?_
    refine Or.inl ⟨_, _, hnx, ?_⟩
    repeat refine hX _ _ _ _ _ _ _ _ _ _ _ _ _ _ rfl ?_
    refine br_t (show ¬ mTk tx L b = nI 1 from fun g => h1 ((mTk_k (by decide)).mp g)) ?_
    repeat refine hX _ _ _ _ _ _ _ _ _ _ _ _ _ _ rfl ?_
    exact ⟨Or.inl rfl, rfl, rfl⟩
def PRel (rd rr : cF) (T : aT) (ya : aF) : Prop := MTold rd T ∧ (∀ j, j < aNs T → rr j = nI (ya j)) ∧ ∀ j, 6 ≤ j → j < 19 → rr j = 0
theorem m_isEmptyYard (S : zS) (d : Nat) (hc : List zC) (m : mS) {T : aT} {ya : aF} {rd rr : cF} (hP : PWf T ya) (hQ1 : PRel rd rr T ya) (a b c v : Int32) {y : Nat} (hy : y < 1000) : Ex S (d + 1) 0 0 102 [.ref 1000, .int (nI y)] (hc, hQ m rd rr a b c v) (some (.int (b2i (!taken ya y (aNs T))))) (hc, hQ m rd rr a b c v) := by
  have hns := hP.1.2.2.2.1
  have hny := hP.1.2.1
  obtain ⟨⟨-, hg, -⟩, hrr, -⟩ := hQ1
  (refine exI rfl rfl ?_; intro X hX)
  have loop : ∀ (n i : Nat), i + n = aNs T → X 4 [some (.ref 1000), some (.int (nI y)), some (.int (b2i (!taken ya y i))), some (.int (nI i))] [] (hc, hQ m rd rr a b c v) 0 0 := by
    intro n
    induction n with
    | zero =>
      intro i hi
      repeat refine hX _ _ _ _ _ _ _ _ _ _ _ _ _ _ rfl ?_
      refine ⟨by unfold vp_in; decide, ?_⟩
      rw [show (1 : Int32).toNatClampNeg = 1 from rfl]
      repeat refine hX _ _ _ _ _ _ _ _ _ _ _ _ _ _ rfl ?_
      refine br_t (show rd 1 ≤ nI i from by rw [hg]; exact nI_le (by omega) (by omega)) ?_
      repeat refine hX _ _ _ _ _ _ _ _ _ _ _ _ _ _ rfl ?_
      exact ⟨b2i_01 _, by rw [show i = aNs T by omega], rfl⟩
    | succ n ih =>
      intro i hi
      have h7 := ih (i + 1) (by omega)
      have h8 := hP.2.1 i (by omega)
      rw [taken, ← nI_1] at h7
      have hri := hrr i (by omega)
      repeat refine hX _ _ _ _ _ _ _ _ _ _ _ _ _ _ rfl ?_
      refine ⟨by unfold vp_in; decide, ?_⟩
      rw [show (1 : Int32).toNatClampNeg = 1 from rfl]
      repeat refine hX _ _ _ _ _ _ _ _ _ _ _ _ _ _ rfl ?_
      refine br_f (show ¬ rd 1 ≤ nI i from by rw [hg]; exact nI_ge (by omega) (by omega)) ?_
      repeat refine hX _ _ _ _ _ _ _ _ _ _ _ _ _ _ rfl ?_
      cases ht : taken ya y i with
      | true =>
        rw [ht] at h7
        refine br_t (show b2i (!true) = 0 from rfl) ?_
        iterate 4 (refine hX _ _ _ _ _ _ _ _ _ _ _ _ _ _ rfl ?_)
        exact h7
      | false =>
        rw [ht, Bool.false_or] at h7
        refine br_f (show ¬ b2i (!false) = 0 by decide) ?_
        repeat refine hX _ _ _ _ _ _ _ _ _ _ _ _ _ _ rfl ?_
        refine ⟨vp_in_nI (by omega) (by decide), ?_⟩
        rw [nI_clamp (by omega)]
        rw [hri]
        repeat refine hX _ _ _ _ _ _ _ _ _ _ _ _ _ _ rfl ?_
        by_cases he : ya i = y
        · rw [decide_eq_true he] at h7
          refine br_t (show nI (ya i) = nI y from congrArg nI he) ?_
          iterate 4 (refine hX _ _ _ _ _ _ _ _ _ _ _ _ _ _ rfl ?_)
          exact h7
        · rw [decide_eq_false he] at h7
          refine br_f (show ¬ nI (ya i) = nI y from fun h => he ((nI_eq (by omega) (by omega)).mp h)) ?_
          iterate 5 (refine hX _ _ _ _ _ _ _ _ _ _ _ _ _ _ rfl ?_)
          exact h7
  have h7 := loop (aNs T) 0 (by omega)
  iterate 4 (refine hX _ _ _ _ _ _ _ _ _ _ _ _ _ _ rfl ?_)
  exact h7
