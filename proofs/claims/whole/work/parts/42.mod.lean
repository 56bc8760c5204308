theorem m_pull (S : zS) (d : Nat) (hc : List zC) (m : mS) {A : aT} {N : aN} (hA : TWf A) (hT : MTold (mTold m) A) (hW : NWf A N) (hN : MRow A (mNow m) 0 N) {j : Nat} (hj : j < aNs A) : Ex S (d + 4) 0 0 114 [.ref 1000, .int (nI j)] (hc, hM m) (some (.int (nI (aPull A N j)))) (hc, hM m) := by
  have hw := m_wronged S d hc m hA hT hW hN hj
  have hs := m_strength S (d + 1) hc m hA hT (set := aWr A N j &&& nCo N) (q_and_lt (aWr_lt hA N j))
  have hN := MRow_0 hN
  (refine exI rfl rfl ?_; intro X hX)
  repeat refine hX _ _ _ _ _ _ _ _ _ _ _ _ _ _ rfl ?_
  refine Or.inl ⟨_, _, hw, ?_⟩
  repeat refine hX _ _ _ _ _ _ _ _ _ _ _ _ _ _ rfl ?_
  refine ⟨by unfold vp_in; decide, ?_⟩
  rw [show (6 : Int32).toNatClampNeg = 6 from rfl]
  rw [hN.1]
  repeat refine hX _ _ _ _ _ _ _ _ _ _ _ _ _ _ rfl ?_
  rw [q_and _ (aWr_lt hA N j) _ (nCo_lt hA hW)]
  refine Or.inl ⟨_, _, hs, ?_⟩
  repeat refine hX _ _ _ _ _ _ _ _ _ _ _ _ _ _ rfl ?_
  exact ⟨rfl, rfl⟩
theorem m_moves (S : zS) (d : Nat) (hc : List zC) (m : mS) {A : aT} {N : aN} (hA : TWf A) (hT : MTold (mTold m) A) (hW : NWf A N) (hN : MRow A (mNow m) 0 N) {j : Nat} (hj : j < aNs A) : Ex S (d + 5) 0 0 115 [.ref 1000, .int (nI j)] (hc, hM m) (some (.int (b2i (aMov A N j)))) (hc, hM m) := by
  have hp := m_pull S d hc m hA hT hW hN hj
  have hns := hA.2.2.2.1
  have h3 := (hA.2.2.2.2.2.1 j hj).2.1
  have h4 : aPull A N j ≤ 54 := aStr_le hA _
  have h5 := (hT.2.2.2.2.1 j hj).1
  (refine exI rfl rfl ?_; intro X hX)
  repeat refine hX _ _ _ _ _ _ _ _ _ _ _ _ _ _ rfl ?_
  refine Or.inl ⟨_, _, hp, ?_⟩
  repeat refine hX _ _ _ _ _ _ _ _ _ _ _ _ _ _ rfl ?_
  rw [show (4 : Int32) + nI j = nI (4 + j) from nI_add 4 j]
  refine ⟨vp_in_nI (by omega) (by decide), ?_⟩
  rw [nI_clamp (by omega)]
  rw [h5]
  repeat refine hX _ _ _ _ _ _ _ _ _ _ _ _ _ _ rfl ?_
  refine ⟨fun hc => ?_, fun hc => ?_⟩
  · have hc : ¬ aWe A j ≤ aPull A N j := by have := (nI_ltI (by omega) (by omega)).mp (show nI (aPull A N j) < nI (aWe A j) from hc); omega
    repeat refine hX _ _ _ _ _ _ _ _ _ _ _ _ _ _ rfl ?_
    exact ⟨Or.inl rfl, by simp [aMov, hc, b2i], rfl⟩
  · have hc : aWe A j ≤ aPull A N j := Nat.not_lt.mp fun h9 => hc (nI_lt h9 (by omega))
    repeat refine hX _ _ _ _ _ _ _ _ _ _ _ _ _ _ rfl ?_
    exact ⟨Or.inr rfl, by simp [aMov, hc, b2i], rfl⟩
/-- the last who stands there is the first -/
theorem aFst_last {A : aT} (hA : TWf A) {N : aN} (hW : NWf A N) {y : Int32} {i : Nat} (hi : i < aNs A) (hy : nI (nYa N i) = y) : aSin A N y = nI i := by
  have hns := hA.2.2.2.1
  have hny := hA.2.1
  have h1 := hW.2.1 i hi
  rw [← hy]
  exact (aSin_self hA hW hi (by omega)).mpr rfl
theorem m_statueIn (S : zS) (d : Nat) (hc : List zC) (m : mS) {A : aT} {N : aN} (hA : TWf A) (hT : MTold (mTold m) A) (hW : NWf A N) (hN : MRow A (mNow m) 0 N) (y : Int32) : Ex S (d + 1) 0 0 116 [.ref 1000, .int y] (hc, hM m) (some (.int (aSin A N y))) (hc, hM m) := by
  have hns := hA.2.2.2.1
  have hN := MRow_0 hN
  have g := hT.2.1
  (refine exI rfl rfl ?_; intro X hX)
  have loop : ∀ (k j : Nat) (w : Int32), j + k = aNs A → (w = -9 ∨ w = aSin A N y) → (∀ i, i < j → nI (nYa N i) = y → w = aSin A N y) → X 5 [some (.ref 1000), some (.int y), some (.int w), some (.int (nI j))] [] (hc, hM m) 0 0 := by
    intro k
    induction k with
    | zero =>
      intro j w hj hw hall
      repeat refine hX _ _ _ _ _ _ _ _ _ _ _ _ _ _ rfl ?_
      refine ⟨by unfold vp_in; decide, ?_⟩
      rw [show (1 : Int32).toNatClampNeg = 1 from rfl]
      rw [g]
      repeat refine hX _ _ _ _ _ _ _ _ _ _ _ _ _ _ rfl ?_
      refine br_t (show nI (aNs A) ≤ nI j from nI_le (by omega) (by omega)) ?_
      repeat refine hX _ _ _ _ _ _ _ _ _ _ _ _ _ _ rfl ?_
      refine ⟨?_, rfl⟩
      rcases hw with hw | hw
      · rcases aFst_cases (f := nYa N) (y := y) (aNs A) 0 with h1 | ⟨k, h1, h2, h3, h4⟩
        · rw [hw]; exact congrArg (fun z => some (Value.int z)) h1.symm
        · rw [hall k (by omega) h4]
      · rw [hw]
    | succ k ih =>
      intro j w hj hw hall
      repeat refine hX _ _ _ _ _ _ _ _ _ _ _ _ _ _ rfl ?_
      refine ⟨by unfold vp_in; decide, ?_⟩
      rw [show (1 : Int32).toNatClampNeg = 1 from rfl]
      rw [g]
      repeat refine hX _ _ _ _ _ _ _ _ _ _ _ _ _ _ rfl ?_
      refine br_f (show ¬ nI (aNs A) ≤ nI j from nI_ge (by omega) (by omega)) ?_
      repeat refine hX _ _ _ _ _ _ _ _ _ _ _ _ _ _ rfl ?_
      refine ⟨vp_in_nI (by omega) (by decide), ?_⟩
      rw [nI_clamp (by omega)]
      rw [hN.2.1 j (by omega)]
      repeat refine hX _ _ _ _ _ _ _ _ _ _ _ _ _ _ rfl ?_
      by_cases he : nI (nYa N j) = y
      · refine br_f (show ¬ ¬ nI (nYa N j) = y from fun h => h he) ?_
        have hl := aFst_last hA hW (show j < aNs A by omega) he
        iterate 5 (refine hX _ _ _ _ _ _ _ _ _ _ _ _ _ _ rfl ?_)
        rw [nI_1]
        exact ih (j + 1) (nI j) (by omega) (Or.inr hl.symm) (fun i _ _ => hl.symm)
      · refine br_t (show ¬ nI (nYa N j) = y from he) ?_
        iterate 4 (refine hX _ _ _ _ _ _ _ _ _ _ _ _ _ _ rfl ?_)
        rw [nI_1]
        refine ih (j + 1) w (by omega) hw (fun i hi h => ?_)
        by_cases hij : i = j
        · exact absurd (by rw [← hij]; exact h) he
        · exact hall i (by omega) h
  iterate 4 (refine hX _ _ _ _ _ _ _ _ _ _ _ _ _ _ rfl ?_)
  exact loop (aNs A) 0 (-9) (by omega) (Or.inl rfl) (fun i hi => absurd hi (Nat.not_lt_zero i))
theorem q_near2 : ∀ a, a < 10 → ∀ b, b < 10 → ∀ s, s < 4 → (!decide (nI s < nI a - nI b) && !decide (nI s < -(nI a - nI b))) = aNear a b s := by decide +kernel
theorem m_offended (S : zS) (d : Nat) (hc : List zC) (m : mS) {A : aT} {N : aN} (hA : TWf A) (hT : MTold (mTold m) A) (hW : NWf A N) (hN : MRow A (mNow m) 0 N) {j y : Nat} (hj : j < aNs A) (hy : y < 10) : Ex S (d + 4) 0 0 117 [.ref 1000, .int (nI j), .int (nI y)] (hc, hM m) (some (.int (nI (aOff A N j y)))) (hc, hM m) := by
  have hnp := hA.2.2.2.2.1
  have hsi := hA.2.2.1
  have hny := hA.2.1
  have hw := m_wronged S d hc m hA hT hW hN hj
  have hwl := aWr_lt hA N j
  have g := hT.2.2.1
  have g2 := hT.2.2.2.2.2
  have g3 := hT.2.2.2.1
  (refine exI rfl rfl ?_; intro X hX)
  have loop : ∀ (k p : Nat) (v : Option Value), p + k = aNp A → (v = none ∨ ∃ z, v = some (.int z)) → X 12 [some (.ref 1000), some (.int (nI j)), some (.int (nI y)), some (.int (nI (aCnt (fun p => (aWr A N j).testBit p && aNear (aHo A p) y (aSi A)) p))), some (.int (nI (aWr A N j))), some (.int (nI p)), v] [] (hc, hM m) 0 0 := by
    intro k
    induction k with
    | zero =>
      intro p v hp hv
      repeat refine hX _ _ _ _ _ _ _ _ _ _ _ _ _ _ rfl ?_
      refine ⟨by unfold vp_in; decide, ?_⟩
      rw [show (2 : Int32).toNatClampNeg = 2 from rfl]
      rw [g]
      repeat refine hX _ _ _ _ _ _ _ _ _ _ _ _ _ _ rfl ?_
      refine br_t (show nI (aNp A) ≤ nI p from nI_le (by omega) (by omega)) ?_
      repeat refine hX _ _ _ _ _ _ _ _ _ _ _ _ _ _ rfl ?_
      exact ⟨by rw [show p = aNp A by omega]; rfl, rfl⟩
    | succ k ih =>
      intro p v hp hv
      have h7 := ih (p + 1) (some (.int (nI (aHo A p) - nI y))) (by omega) (Or.inr ⟨_, rfl⟩)
      rw [aCnt] at h7
      have hho := (hA.2.2.2.2.2.2 p (by omega)).1
      have hq := q_near2 (aHo A p) (by omega) y hy (aSi A) (by omega)
      have h75 : ((aWr A N j).testBit p && aNear (aHo A p) y (aSi A)) = false → X 75 [some (.ref 1000), some (.int (nI j)), some (.int (nI y)), some (.int (nI (aCnt (fun p => (aWr A N j).testBit p && aNear (aHo A p) y (aSi A)) p))), some (.int (nI (aWr A N j))), some (.int (nI p)), some (.int (nI (aHo A p) - nI y))] [.int (nI (aCnt (fun p => (aWr A N j).testBit p && aNear (aHo A p) y (aSi A)) p))] (hc, hM m) 0 0 := by
        intro hb
        rw [hb] at h7
        iterate 5 (refine hX _ _ _ _ _ _ _ _ _ _ _ _ _ _ rfl ?_)
        rw [nI_1, show (0 : Int32) = nI 0 from rfl, nI_add]
        exact h7
      rcases hv with rfl | ⟨z, rfl⟩
      all_goals
        repeat refine hX _ _ _ _ _ _ _ _ _ _ _ _ _ _ rfl ?_
        refine ⟨by unfold vp_in; decide, ?_⟩
        rw [show (2 : Int32).toNatClampNeg = 2 from rfl]
        rw [g]
        repeat refine hX _ _ _ _ _ _ _ _ _ _ _ _ _ _ rfl ?_
        refine br_f (show ¬ nI (aNp A) ≤ nI p from nI_ge (by omega) (by omega)) ?_
        repeat refine hX _ _ _ _ _ _ _ _ _ _ _ _ _ _ rfl ?_
        rw [show (16 : Int32) + nI p = nI (16 + p) from nI_add 16 p]
        refine ⟨vp_in_nI (by omega) (by decide), ?_⟩
        rw [nI_clamp (by omega)]
        rw [(g2 p (by omega)).1]
        repeat refine hX _ _ _ _ _ _ _ _ _ _ _ _ _ _ rfl ?_
        refine Or.inl ⟨_, _, m_hasX S (d + 2) _ hwl (by omega), ?_⟩
        repeat refine hX _ _ _ _ _ _ _ _ _ _ _ _ _ _ rfl ?_
        cases hb : (aWr A N j).testBit p with
        | false =>
          refine br_t (show b2i false = 0 from rfl) ?_
          exact h75 (by rw [hb]; rfl)
        | true =>
          refine br_f (show ¬ b2i true = 0 by decide) ?_
          repeat refine hX _ _ _ _ _ _ _ _ _ _ _ _ _ _ rfl ?_
          refine ⟨by unfold vp_in; decide, ?_⟩
          rw [show (3 : Int32).toNatClampNeg = 3 from rfl]
          rw [g3]
          repeat refine hX _ _ _ _ _ _ _ _ _ _ _ _ _ _ rfl ?_
          by_cases c1 : nI (aSi A) < nI (aHo A p) - nI y
          · refine br_t (show nI (aSi A) < nI (aHo A p) - nI y from c1) ?_
            rw [decide_eq_true c1] at hq
            exact h75 (by rw [hb, ← hq]; rfl)
          · refine br_f (show ¬ nI (aSi A) < nI (aHo A p) - nI y from c1) ?_
            repeat refine hX _ _ _ _ _ _ _ _ _ _ _ _ _ _ rfl ?_
            refine ⟨by unfold vp_in; decide, ?_⟩
            rw [show (3 : Int32).toNatClampNeg = 3 from rfl]
            rw [g3]
            repeat refine hX _ _ _ _ _ _ _ _ _ _ _ _ _ _ rfl ?_
            by_cases c2 : nI (aSi A) < -(nI (aHo A p) - nI y)
            · refine br_t (show nI (aSi A) < -(nI (aHo A p) - nI y) from c2) ?_
              rw [decide_eq_true c2] at hq
              exact h75 (by rw [hb, ← hq, decide_eq_false c1]; rfl)
            · refine br_f (show ¬ nI (aSi A) < -(nI (aHo A p) - nI y) from c2) ?_
              rw [decide_eq_false c1, decide_eq_false c2] at hq
              rw [hb, ← hq] at h7
              iterate 6 (refine hX _ _ _ _ _ _ _ _ _ _ _ _ _ _ rfl ?_)
              rw [nI_1, nI_1]
              exact h7
  repeat refine hX _ _ _ _ _ _ _ _ _ _ _ _ _ _ rfl ?_
  refine Or.inl ⟨_, _, hw, ?_⟩
  iterate 3 (refine hX _ _ _ _ _ _ _ _ _ _ _ _ _ _ rfl ?_)
  exact loop (aNp A) 0 none (by omega) (Or.inl rfl)
/-! the place: going down with 'or equal' comes to the same -/
def aBest (A : aT) (N : aN) (j b : Nat) : Prop := aCan A N j b = true ∧ b < aNy A ∧ (∀ y, y < aNy A → aCan A N j y = true → aOff A N j b ≤ aOff A N j y) ∧ ∀ y, y < b → aCan A N j y = true → aOff A N j b < aOff A N j y
theorem aBest_one {A : aT} {N : aN} {j b b' : Nat} (h : aBest A N j b) (h' : aBest A N j b') : b = b' := by
  rcases Nat.lt_trichotomy b b' with hl | he | hg
  · have h1 := h'.2.2.2 b hl h.1
    have h2 := h.2.2.1 b' h'.2.1 h'.1
    omega
  · exact he
  · have h1 := h.2.2.2 b' hg h'.1
    have h2 := h'.2.2.1 b h.2.1 h.1
    omega
theorem aPlc_best {A : aT} (hA : TWf A) {N : aN} (hW : NWf A N) {j : Nat} (hj : j < aNs A) : aBest A N j (aPlc A N j (aNy A)).1 := by
  have key : ∀ n, n ≤ aNy A → ((aPlc A N j n).2 = 7 ∧ ∀ y, y < n → aCan A N j y = false) ∨ ((aPlc A N j n).2 = aOff A N j (aPlc A N j n).1 ∧ (aPlc A N j n).1 < n ∧ aCan A N j (aPlc A N j n).1 = true ∧ (∀ y, y < n → aCan A N j y = true → aOff A N j (aPlc A N j n).1 ≤ aOff A N j y) ∧ ∀ y, y < (aPlc A N j n).1 → aCan A N j y = true → aOff A N j (aPlc A N j n).1 < aOff A N j y) := by
    intro n
    induction n with
    | zero => intro _; exact Or.inl ⟨rfl, fun y hy => absurd hy (Nat.not_lt_zero y)⟩
    | succ n ih =>
      intro hn
      have ho := aOff_le hA N j n
      rcases ih (by omega) with ⟨h1, h2⟩ | ⟨h1, h2, h3, h4, h5⟩
      · rw [aPlc, h1]
        cases hc : aCan A N j n with
        | false =>
          left
          refine ⟨h1, fun y hy => ?_⟩
          by_cases hyn : y = n
          · rw [hyn]; exact hc
          · exact h2 y (by omega)
        | true =>
          right
          rw [decide_eq_true (show aOff A N j n < 7 by omega)]
          refine ⟨rfl, Nat.lt_succ_self n, hc, fun y hy hcy => ?_, fun y hy hcy => ?_⟩
          · by_cases hyn : y = n
            · rw [hyn]; exact Nat.le_refl _
            · rw [h2 y (by omega)] at hcy; cases hcy
          · rw [h2 y hy] at hcy; cases hcy
      · right
        rw [aPlc]
        cases hb : (aCan A N j n && decide (aOff A N j n < (aPlc A N j n).2)) with
        | false =>
          refine ⟨h1, Nat.lt_succ_of_lt h2, h3, fun y hy hcy => ?_, h5⟩
          by_cases hyn : y = n
          · subst hyn
            rw [hcy, Bool.true_and, h1] at hb
            exact Nat.not_lt.mp (of_decide_eq_false hb)
          · exact h4 y (by omega) hcy
        | true =>
          rw [Bool.and_eq_true, h1] at hb
          have hlt := of_decide_eq_true hb.2
          refine ⟨rfl, Nat.lt_succ_self n, hb.1, fun y hy hcy => ?_, fun y hy hcy => ?_⟩
          · by_cases hyn : y = n
            · rw [hyn]; exact Nat.le_refl _
            · exact Nat.le_trans (Nat.le_of_lt hlt) (h4 y (by omega) hcy)
          · exact Nat.lt_of_lt_of_le hlt (h4 y hy hcy)
  rcases key (aNy A) (Nat.le_refl _) with ⟨h1, h2⟩ | ⟨h1, h2, h3, h4, h5⟩
  · have h3 := h2 (nYa N j) (hW.2.1 j hj)
    rw [aCan, decide_eq_true (rfl : nYa N j = nYa N j), Bool.or_true] at h3
    cases h3
  · exact ⟨h3, h2, h4, h5⟩
theorem m_placeOf (S : zS) (d : Nat) (hc : List zC) (m : mS) {A : aT} {N : aN} (hA : TWf A) (hT : MTold (mTold m) A) (hW : NWf A N) (hN : MRow A (mNow m) 0 N) {j : Nat} (hj : j < aNs A) : Ex S (d + 5) 0 0 118 [.ref 1000, .int (nI j)] (hc, hM m) (some (.int (nI (aPlc A N j (aNy A)).1))) (hc, hM m) := by
  have hns := hA.2.2.2.1
  have hny := hA.2.1
  have hof := fun y (hy : y < 10) => m_offended S d hc m hA hT hW hN hj hy
  have hin := fun y => m_statueIn S (d + 3) hc m hA hT hW hN y
  have hol := fun y => aOff_le hA N j y
  have hN := MRow_0 hN
  have g := hT.1
  have hyj := hW.2.1 j hj
  (refine exI rfl rfl ?_; intro X hX)
  have loop : ∀ (n : Nat) (o : Option Nat) (v : Option Value), n ≤ aNy A → (v = none ∨ ∃ z, v = some (.int z)) → (o = none → ∀ y, n ≤ y → y < aNy A → aCan A N j y = false) → (∀ b, o = some b → n ≤ b ∧ b < aNy A ∧ aCan A N j b = true ∧ (∀ y, n ≤ y → y < aNy A → aCan A N j y = true → aOff A N j b ≤ aOff A N j y) ∧ ∀ y, n ≤ y → y < b → aCan A N j y = true → aOff A N j b < aOff A N j y) → X 12 [some (.ref 1000), some (.int (nI j)), some (.int (oI o)), some (.int (nI n - 1)), v] [] (hc, hM m) 0 0 := by
    intro n
    induction n with
    | zero =>
      intro o v hn hv h1 h2
      repeat refine hX _ _ _ _ _ _ _ _ _ _ _ _ _ _ rfl ?_
      refine br_t (show nI 0 - 1 < 0 by decide) ?_
      repeat refine hX _ _ _ _ _ _ _ _ _ _ _ _ _ _ rfl ?_
      refine ⟨?_, rfl⟩
      cases o with
      | none =>
        have h3 := h1 rfl (nYa N j) (Nat.zero_le _) hyj
        rw [aCan, decide_eq_true (rfl : nYa N j = nYa N j), Bool.or_true] at h3
        cases h3
      | some b =>
        obtain ⟨-, b1, b2, b3, b4⟩ := h2 b rfl
        rw [aBest_one (aPlc_best hA hW hj) ⟨b2, b1, fun y hy => b3 y (Nat.zero_le _) hy, fun y hy => b4 y (Nat.zero_le _) hy⟩]
        rfl
    | succ n ih =>
      intro o v hn hv h1 h2
      rw [nI_pred]
      have h73 : ∀ z, (aCan A N j n = false ∨ ∃ b, o = some b ∧ aOff A N j b < aOff A N j n) → X 73 [some (.ref 1000), some (.int (nI j)), some (.int (oI o)), some (.int (nI n)), some (.int z)] [] (hc, hM m) 0 0 := by
        intro z hcase
        have h7 := ih o (some (.int z)) (by omega) (Or.inr ⟨_, rfl⟩) (fun ho y hy hyn => ?_) (fun b ho => ?_)
        · iterate 4 (refine hX _ _ _ _ _ _ _ _ _ _ _ _ _ _ rfl ?_)
          rw [← Int32.sub_eq_add_neg]
          exact h7
        · by_cases hyn2 : y = n
          · rcases hcase with hcc | ⟨b, hb, -⟩
            · rw [hyn2]; exact hcc
            · rw [ho] at hb; cases hb
          · exact h1 ho y (by omega) hyn
        · obtain ⟨b0, b1, b2, b3, b4⟩ := h2 b ho
          refine ⟨by omega, b1, b2, fun y hy hyn hcy => ?_, fun y hy hyb hcy => ?_⟩
          · by_cases hyn2 : y = n
            · rcases hcase with hcc | ⟨b', hb', hlt⟩
              · rw [hyn2, hcc] at hcy; cases hcy
              · rw [ho] at hb'; cases hb'
                rw [hyn2]; omega
            · exact b3 y (by omega) hyn hcy
          · by_cases hyn2 : y = n
            · rcases hcase with hcc | ⟨b', hb', hlt⟩
              · rw [hyn2, hcc] at hcy; cases hcy
              · rw [ho] at hb'; cases hb'
                rw [hyn2]; exact hlt
            · exact b4 y (by omega) hyb hcy
      have h69 : ∀ z, aCan A N j n = true → (∀ b, o = some b → aOff A N j n ≤ aOff A N j b) → X 69 [some (.ref 1000), some (.int (nI j)), some (.int (oI o)), some (.int (nI n)), some (.int z)] [] (hc, hM m) 0 0 := by
        intro z hcc hle
        have h7 := ih (some n) (some (.int z)) (by omega) (Or.inr ⟨_, rfl⟩) (fun ho => by cases ho) (fun b ho => ?_)
        · iterate 5 (refine hX _ _ _ _ _ _ _ _ _ _ _ _ _ _ rfl ?_)
          rw [← Int32.sub_eq_add_neg]
          exact h7
        · cases ho
          refine ⟨Nat.le_refl _, by omega, hcc, fun y hy hyn hcy => ?_, fun y hy hyb => by omega⟩
          by_cases hyn2 : y = n
          · rw [hyn2]; exact Nat.le_refl _
          · cases ho2 : o with
            | none => rw [h1 ho2 y (by omega) hyn] at hcy; cases hcy
            | some b => exact Nat.le_trans (hle b ho2) ((h2 b ho2).2.2.2.1 y (by omega) hyn hcy)
      have h43 : ∀ u : Bool, u = aCan A N j n → X 43 [some (.ref 1000), some (.int (nI j)), some (.int (oI o)), some (.int (nI n)), some (.int (b2i u))] [] (hc, hM m) 0 0 := by
        intro u hu
        repeat refine hX _ _ _ _ _ _ _ _ _ _ _ _ _ _ rfl ?_
        cases u with
        | false =>
          refine br_t (show b2i false = 0 from rfl) ?_
          exact h73 _ (Or.inl hu.symm)
        | true =>
          refine br_f (show ¬ b2i true = 0 by decide) ?_
          repeat refine hX _ _ _ _ _ _ _ _ _ _ _ _ _ _ rfl ?_
          cases o with
          | none =>
            refine br_t (show oI none = -9 from rfl) ?_
            exact h69 _ hu.symm (fun b hb => by cases hb)
          | some b =>
            obtain ⟨b0, b1, -⟩ := h2 b rfl
            refine br_f (show ¬ nI b = -9 from n9 b (by omega)) ?_
            repeat refine hX _ _ _ _ _ _ _ _ _ _ _ _ _ _ rfl ?_
            refine Or.inl ⟨_, _, hof n (by omega), ?_⟩
            repeat refine hX _ _ _ _ _ _ _ _ _ _ _ _ _ _ rfl ?_
            refine Or.inl ⟨_, _, hof b (by omega), ?_⟩
            repeat refine hX _ _ _ _ _ _ _ _ _ _ _ _ _ _ rfl ?_
            have hx1 := hol n
            have hx2 := hol b
            by_cases hlt : aOff A N j b < aOff A N j n
            · refine br_t (show nI (aOff A N j b) < nI (aOff A N j n) from nI_lt hlt (by omega)) ?_
              exact h73 _ (Or.inr ⟨b, rfl, hlt⟩)
            · refine br_f (show ¬ nI (aOff A N j b) < nI (aOff A N j n) from nI_nlt (by omega) (by omega)) ?_
              exact h69 _ hu.symm (fun b' hb' => by cases hb'; omega)
      rcases hv with rfl | ⟨z, rfl⟩
      all_goals
        repeat refine hX _ _ _ _ _ _ _ _ _ _ _ _ _ _ rfl ?_
        refine br_f (show ¬ nI n < 0 from nI_pos (by omega)) ?_
        repeat refine hX _ _ _ _ _ _ _ _ _ _ _ _ _ _ rfl ?_
        refine Or.inl ⟨_, _, hin (nI n), ?_⟩
        repeat refine hX _ _ _ _ _ _ _ _ _ _ _ _ _ _ rfl ?_
        by_cases h9 : aSin A N (nI n) = -9
        · refine br_t (show aSin A N (nI n) = -9 from h9) ?_
          iterate 3 (refine hX _ _ _ _ _ _ _ _ _ _ _ _ _ _ rfl ?_)
          exact h43 true (by rw [aCan, decide_eq_true h9, Bool.true_or])
        · refine br_f (show ¬ aSin A N (nI n) = -9 from h9) ?_
          repeat refine hX _ _ _ _ _ _ _ _ _ _ _ _ _ _ rfl ?_
          refine ⟨vp_in_nI (by omega) (by decide), ?_⟩
          rw [nI_clamp (by omega)]
          rw [hN.2.1 j hj]
          repeat refine hX _ _ _ _ _ _ _ _ _ _ _ _ _ _ rfl ?_
          by_cases he : nYa N j = n
          · refine br_f (show ¬ ¬ nI (nYa N j) = nI n from fun h => h (congrArg nI he)) ?_
            iterate 3 (refine hX _ _ _ _ _ _ _ _ _ _ _ _ _ _ rfl ?_)
            exact h43 true (by rw [aCan, decide_eq_true he, Bool.or_true])
          · refine br_t (show ¬ nI (nYa N j) = nI n from fun h => he ((nI_eq (by omega) (by omega)).mp h)) ?_
            iterate 2 (refine hX _ _ _ _ _ _ _ _ _ _ _ _ _ _ rfl ?_)
            exact h43 false (by rw [aCan, decide_eq_false h9, decide_eq_false he]; rfl)
  repeat refine hX _ _ _ _ _ _ _ _ _ _ _ _ _ _ rfl ?_
  refine ⟨by unfold vp_in; decide, ?_⟩
  rw [show (0 : Int32).toNatClampNeg = 0 from rfl]
  rw [g]
  iterate 3 (refine hX _ _ _ _ _ _ _ _ _ _ _ _ _ _ rfl ?_)
  exact loop (aNy A) none none (Nat.le_refl _) (Or.inl rfl) (fun _ y hy hyn => by omega) (fun b hb => by cases hb)
