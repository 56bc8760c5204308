/-! ===== a call keeps the whole well ===== -/
theorem wf_now {a : aS} (hA : AWf a) {N : aN} {k : Nat} {H : Nat → aN} (hN : NWf (sT a) N) (hk : k ≤ 10) (hH : ∀ j, j < k → NWf (sT a) (H j)) : AWf (uNow a N k H) := ⟨hA.1, hN, hA.2.2.1, ⟨hk, hH⟩, hA.2.2.2.2.1, hA.2.2.2.2.2⟩
theorem wf_do {a : aS} (hA : AWf a) {N : aN} (hN : NWf (sT a) N) : AWf (uDo a N) := by
  obtain ⟨h10, hH⟩ := hA.2.2.2.1
  refine wf_now hA hN ?_ fun j hj => ?_
  · unfold hPk
    by_cases h : sK a = 10
    · rw [if_pos h]; exact Nat.le_refl _
    · rw [if_neg h]; omega
  · unfold hPk at hj
    unfold hPH
    by_cases h : sK a = 10
    · rw [if_pos h] at hj ⊢
      show NWf (sT a) (if j < 9 then sH a (j + 1) else sN a)
      by_cases h9 : j < 9
      · rw [if_pos h9]; exact hH _ (by omega)
      · rw [if_neg h9]; exact hA.2.1
    · rw [if_neg h] at hj ⊢
      by_cases he : j = sK a
      · rw [he, aup_s]; exact hA.2.1
      · rw [aup_n _ _ he]; exact hH j (by omega)
theorem wf_type {a : aS} (hA : AWf a) (x : Int32) : AWf (spType a x).2 := by
  unfold spType
  cases hin : inb x 256 with
  | false => exact hA
  | true =>
    obtain ⟨j, hj, rfl⟩ := inb_of hin (by decide)
    simp only [cond_true]
    by_cases h : sLen a = 150
    · rw [if_pos h]; exact hA
    · rw [if_neg h]
      have hl := hA.2.2.1.1
      refine ⟨hA.1, hA.2.1, ⟨(show sLen a + 1 ≤ 150 by omega), fun i hi => ?_⟩, hA.2.2.2⟩
      have hi : i < sLen a + 1 := hi
      show aup (sTx a) (sLen a) (nI j).toNatClampNeg i < 256
      rw [nI_clamp (by omega)]
      by_cases he : i = sLen a
      · rw [he, aup_s]; exact hj
      · rw [aup_n _ _ he]; exact hA.2.2.1.2 i (by omega)
theorem wf_clear {a : aS} (hA : AWf a) : AWf (spClear a).2 := ⟨hA.1, hA.2.1, ⟨Nat.zero_le _, fun i hi => absurd hi (Nat.not_lt_zero i)⟩, hA.2.2.2⟩
theorem wf_forget {a : aS} (hA : AWf a) : AWf (spForget a).2 := ⟨hA.1, hA.2.1, hA.2.2.1, hA.2.2.2.1, hA.2.2.2.2.1, ⟨Nat.zero_le _, fun i hi => absurd hi (Nat.not_lt_zero i)⟩⟩
theorem wf_sees {a : aS} (hA : AWf a) (s w : Int32) : AWf (spSees a s w).2 := by
  have hns := hA.1.2.2.2.1
  unfold spSees
  cases hin : (inb s (aNs (sT a)) && inb w 2) with
  | false => exact hA
  | true =>
    rw [Bool.and_eq_true] at hin
    obtain ⟨i, hi, rfl⟩ := inb_of hin.1 (by omega)
    obtain ⟨j, hj, rfl⟩ := inb_of hin.2 (by decide)
    simp only [cond_true]
    by_cases h : sQ a = 6
    · rw [if_pos h]; exact hA
    · rw [if_neg h]
      obtain ⟨hl, hq⟩ := hA.2.2.2.2.2
      refine ⟨hA.1, hA.2.1, hA.2.2.1, hA.2.2.2.1, hA.2.2.2.2.1, ⟨(show sQ a + 1 ≤ 6 by omega), fun k hk => ?_⟩⟩
      have hk : k < sQ a + 1 := hk
      show aup (sOf a) (sQ a) (nI i).toNatClampNeg k < aNs (sT a) ∧ aup (sIs a) (sQ a) (nI j).toNatClampNeg k < 2
      rw [nI_clamp (by omega), nI_clamp (by omega)]
      by_cases he : k = sQ a
      · rw [he, aup_s, aup_s]; exact ⟨hi, hj⟩
      · rw [aup_n _ _ he, aup_n _ _ he]; exact hq k (by omega)
theorem wf_comes {a : aS} (hA : AWf a) (x : Int32) : AWf (spComes a x).2 := by
  have hnp := hA.1.2.2.2.2.1
  unfold spComes
  cases hin : inb x (aNp (sT a)) with
  | false => exact hA
  | true =>
    obtain ⟨j, hj, rfl⟩ := inb_of hin (by omega)
    simp only [cond_true]
    rw [nI_clamp (by omega)]
    cases (nCo (sN a)).testBit j with
    | true => exact hA
    | false => exact wf_do hA ⟨or_lt hA.2.1.1 hj, hA.2.1.2⟩
theorem wf_goes {a : aS} (hA : AWf a) (x : Int32) : AWf (spGoes a x).2 := by
  have hnp := hA.1.2.2.2.2.1
  unfold spGoes
  cases hin : inb x (aNp (sT a)) with
  | false => exact hA
  | true =>
    obtain ⟨j, hj, rfl⟩ := inb_of hin (by omega)
    simp only [cond_true]
    rw [nI_clamp (by omega)]
    cases (nCo (sN a)).testBit j with
    | false => exact hA
    | true => exact wf_do hA ⟨q_clr_lt _ hnp _ (nCo_lt hA.1 hA.2.1) hA.2.1.1 _ (by omega), hA.2.1.2⟩
theorem wf_claims {a : aS} (hA : AWf a) (x y : Int32) : AWf (spClaims a x y).2 := by
  have hnp := hA.1.2.2.2.2.1
  have hns := hA.1.2.2.2.1
  unfold spClaims
  cases hin : (inb x (aNp (sT a)) && inb y (aNs (sT a))) with
  | false => exact hA
  | true =>
    rw [Bool.and_eq_true] at hin
    obtain ⟨i, hi, rfl⟩ := inb_of hin.1 (by omega)
    obtain ⟨j, hj, rfl⟩ := inb_of hin.2 (by omega)
    simp only [cond_true]
    rw [nI_clamp (by omega), nI_clamp (by omega)]
    cases (aWr (sT a) (sN a) j).testBit i with
    | true => exact hA
    | false =>
      simp only [cond_false]
      by_cases h : aCr (sT a) i ≤ pop (nCl (sN a) i)
      · rw [if_pos h]; exact hA
      · rw [if_neg h]; exact wf_do hA (claim_wf hA.2.1 hj)
theorem wf_pulls {a : aS} (hA : AWf a) (x y : Int32) : AWf (spPulls a x y).2 := by
  have hny := hA.1.2.1
  unfold spPulls
  cases hin : (inb x (aNs (sT a)) && inb y 2) with
  | false => exact hA
  | true =>
    simp only [cond_true]
    cases h2 : (aMov (sT a) (sN a) x.toNatClampNeg && (inb (aTo a x.toNatClampNeg y) (aNy (sT a)) && decide (aSin (sT a) (sN a) (aTo a x.toNatClampNeg y) = -9))) with
    | false => exact hA
    | true =>
      rw [Bool.and_eq_true, Bool.and_eq_true, decide_eq_true_eq] at h2
      obtain ⟨-, h3, h4⟩ := h2
      obtain ⟨t, ht, he⟩ := inb_of h3 (by omega)
      rw [he] at h4
      simp only [cond_true]
      rw [he, nI_clamp (by omega)]
      exact wf_do hA (pull_wf hA.1 hA.2.1 ht h4)
theorem wf_undo {a : aS} (hA : AWf a) : AWf (spUndo a).2 := by
  obtain ⟨h10, hH⟩ := hA.2.2.2.1
  unfold spUndo
  by_cases h : sK a = 0
  · rw [if_pos h]; exact hA
  · rw [if_neg h]
    exact wf_now hA (hH _ (by omega)) (by omega) fun j hj => hH j (by omega)
theorem wf_rate {a : aS} (hA : AWf a) (k s : Int32) : AWf (spRate a k s).2 := by
  unfold spRate
  cases inb k 6 && inb s (aNs (sT a)) with
  | false => exact hA
  | true => exact hA
theorem wf_keep {a : aS} (hA : AWf a) (x : Int32) : AWf (spKeep a x).2 := by
  unfold spKeep
  cases hin : inb x 2 with
  | false => exact hA
  | true =>
    refine ⟨hA.1, hA.2.1, hA.2.2.1, hA.2.2.2.1, fun i hi hk => ?_, hA.2.2.2.2.2⟩
    have hk : aup (sKe a) x.toNatClampNeg true i = true := hk
    show NWf (sT a) (aup (sIm a) x.toNatClampNeg (sN a) i)
    by_cases he : i = x.toNatClampNeg
    · rw [he, aup_s]; exact hA.2.1
    · rw [aup_n _ _ he] at hk ⊢
      exact hA.2.2.2.2.1 i hi hk
theorem wf_back {a : aS} (hA : AWf a) (x : Int32) : AWf (spBack a x).2 := by
  unfold spBack
  cases hin : inb x 2 with
  | false => exact hA
  | true =>
    obtain ⟨j, hj, rfl⟩ := inb_of hin (by decide)
    simp only [cond_true]
    rw [nI_clamp (by omega)]
    cases hk : sKe a j with
    | false => exact hA
    | true => exact wf_now hA (hA.2.2.2.2.1 j hj hk) (Nat.zero_le _) fun i hi => absurd hi (Nat.not_lt_zero i)
theorem pLop_wf {tx : aF} {L : Nat} : ∀ (n it b : Nat) (T : aT) (ya : aF) (si : Bool), PWf T ya → (it = 0 → aNs T = 0 ∧ aNp T = 0) → ∀ it' T' ya', pLop tx L n it b T ya si = .inr (it', T', ya') → PWf T' ya'
  | 0, it, b, T, ya, si, hP, h0, it', T', ya', h => by rw [pLop] at h; cases h
  | n + 1, it, b, T, ya, si, hP, h0, it', T', ya', h => by
    rw [pLop] at h
    cases hk : decide (tK tx L b = 0) with
    | true =>
      rw [hk] at h
      cases h
      exact hP
    | false =>
      rw [hk] at h
      simp only [cond_false] at h
      cases hres : pItm tx L b T ya si it with
      | inl f => rw [hres] at h; cases h
      | inr w =>
        obtain ⟨bl, T1, ya1, si1⟩ := w
        rw [hres] at h
        exact pLop_wf n (it + 1) _ T1 ya1 si1 (pItm_wf hP h0 hres) (fun h => by omega) it' T' ya' h
theorem wf_town {a : aS} (hA : AWf a) : AWf (spTown a).2 := by
  unfold spTown
  cases hres : pLop (sTx a) (sLen a) (sLen a + 1) 0 (tB (sTx a) (sLen a) 0) tT0 (fun _ => 0) false with
  | inl f => exact hA
  | inr w =>
    obtain ⟨it, T', ya'⟩ := w
    have hP := pLop_wf _ _ _ _ _ _ ⟨⟨by decide, by decide, by decide, by decide, by decide, fun j hj => absurd hj (Nat.not_lt_zero j), fun j hj => absurd hj (Nat.not_lt_zero j)⟩, fun j hj => absurd hj (Nat.not_lt_zero j), fun j hj => absurd hj (Nat.not_lt_zero j)⟩ (fun _ => ⟨rfl, rfl⟩) it T' ya' hres
    exact ⟨hP.1, ⟨Nat.two_pow_pos _, hP.2.1, hP.2.2, fun p hp => Nat.two_pow_pos _⟩, ⟨Nat.zero_le _, fun i hi => absurd hi (Nat.not_lt_zero i)⟩, ⟨Nat.zero_le _, fun i hi => absurd hi (Nat.not_lt_zero i)⟩, (fun i hi h => absurd (show false = true from h) (by decide)), ⟨Nat.zero_le _, fun i hi => absurd hi (Nat.not_lt_zero i)⟩⟩
