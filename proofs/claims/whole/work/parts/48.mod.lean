/-! ===== the reference: the fewest who must come, the fewest pulls ===== -/
theorem m_gather (S : zS) (d : Nat) (hc : List zC) (m : mS) {a : aS} (hA : AWf a) (hR : MRel m a) (x : Int32) : Ex S (d + 4) 0 0 128 [.ref 1000, .int x] (hc, hM m) (some (.int (spGather a x))) (hc, hM m) := by
  have hns := hA.1.2.2.2.1
  have hnp := hA.1.2.2.2.2.1
  have h64 := pow_le64 hnp
  have h64s := pow_le64 hns
  have hn := hR.1.2.1
  have hp := hR.1.2.2.1
  have hbc := fun h (x : Nat) (hx : x < 64) => m_ones S (d + 2) h hx
  have e1 := q_shl (aNs (sT a)) (by omega)
  have e2 := q_shl (aNp (sT a)) (by omega)
  have hin64 := fun h => m_in S (d + 2) h x.toInt64 0 (nI (2 ^ aNs (sT a)) - 1).toInt64
  rw [in64 x (by omega)] at hin64
  unfold spGather
  cases hin : inb x (2 ^ aNs (sT a)) with
  | false =>
    rw [hin] at hin64
    (refine exI rfl rfl ?_; intro X hX)
    repeat refine hX _ _ _ _ _ _ _ _ _ _ _ _ _ _ rfl ?_
    refine ⟨by unfold vp_in; decide, ?_⟩
    rw [show (1 : Int32).toNatClampNeg = 1 from rfl]
    rw [hn]
    iterate 2 (refine hX _ _ _ _ _ _ _ _ _ _ _ _ _ _ rfl ?_)
    rw [e1]
    repeat refine hX _ _ _ _ _ _ _ _ _ _ _ _ _ _ rfl ?_
    refine Or.inl ⟨_, _, hin64 _, ?_⟩
    repeat refine hX _ _ _ _ _ _ _ _ _ _ _ _ _ _ rfl ?_
    refine br_f (show ¬ ¬ b2i false = 0 by decide) ?_
    repeat refine hX _ _ _ _ _ _ _ _ _ _ _ _ _ _ rfl ?_
    exact ⟨rfl, rfl⟩
  | true =>
    rw [hin] at hin64
    obtain ⟨set, hset, rfl⟩ := inb_of hin (by omega)
    simp only [cond_true, nI_clamp (show set < 2 ^ 31 by omega)]
    have hwr := fun j (hj : j < aNs (sT a)) => m_wronged S d hc m hA.1 hR.1 hA.2.1 hR.2.1 hj
    have hwl := fun j => aWr_lt hA.1 (sN a) j
    have hst := fun (x : Nat) (hx : x < 64) => m_strength S (d + 1) hc m hA.1 hR.1 hx
    have hhas := fun h j (hj : j < 6) => m_hasX S (d + 2) h (show set < 64 by omega) hj
    have h5 := fun j hj => (hR.1.2.2.2.2.1 j hj).1
    (refine exI rfl rfl ?_; intro X hX)
    have loop : ∀ (k n : Nat) (v4 v5 : Option Value), n + k = 2 ^ aNp (sT a) → ((v4 = none ∧ v5 = none) ∨ ∃ y z, v4 = some (.int y) ∧ v5 = some (.int z)) → X 27 [some (.ref 1000), some (.int (nI set)), some (.int (oI (aGa (sT a) (sN a) set n))), some (.int (nI n)), v4, v5] [] (hc, hM m) 0 0 := by
      intro k
      induction k with
      | zero =>
        intro n v4 v5 hnk hv
        repeat refine hX _ _ _ _ _ _ _ _ _ _ _ _ _ _ rfl ?_
        refine ⟨by unfold vp_in; decide, ?_⟩
        rw [show (2 : Int32).toNatClampNeg = 2 from rfl]
        rw [hp]
        iterate 2 (refine hX _ _ _ _ _ _ _ _ _ _ _ _ _ _ rfl ?_)
        rw [e2]
        refine br_t (show nI (2 ^ aNp (sT a)) ≤ nI n from nI_le (by omega) (by omega)) ?_
        repeat refine hX _ _ _ _ _ _ _ _ _ _ _ _ _ _ rfl ?_
        exact ⟨by rw [show n = 2 ^ aNp (sT a) by omega], rfl⟩
      | succ k ih =>
        intro n v4 v5 hnk hv
        have inner : ∀ (q j : Nat), j + q = aNs (sT a) → X 66 [some (.ref 1000), some (.int (nI set)), some (.int (oI (aGa (sT a) (sN a) set n))), some (.int (nI n)), some (.int (b2i (oFew (aGa (sT a) (sN a) set n) n && aAll (sT a) (sN a) n set j))), some (.int (nI j))] [] (hc, hM m) 0 0 := by
          intro q
          induction q with
          | zero =>
            intro j hj
            have h7 := fun v4 => ih (n + 1) (some (.int v4)) (some (.int (nI j))) (by omega) (Or.inr ⟨_, _, rfl, rfl⟩)
            rw [aGa] at h7
            repeat refine hX _ _ _ _ _ _ _ _ _ _ _ _ _ _ rfl ?_
            refine ⟨by unfold vp_in; decide, ?_⟩
            rw [show (1 : Int32).toNatClampNeg = 1 from rfl]
            rw [hn]
            repeat refine hX _ _ _ _ _ _ _ _ _ _ _ _ _ _ rfl ?_
            refine br_t (show nI (aNs (sT a)) ≤ nI j from nI_le (by omega) (by omega)) ?_
            repeat refine hX _ _ _ _ _ _ _ _ _ _ _ _ _ _ rfl ?_
            rw [← show j = aNs (sT a) by omega] at h7
            cases hb : (oFew (aGa (sT a) (sN a) set n) n && aAll (sT a) (sN a) n set j) with
            | false =>
              rw [hb] at h7
              refine br_t (show b2i false = 0 from rfl) ?_
              iterate 4 (refine hX _ _ _ _ _ _ _ _ _ _ _ _ _ _ rfl ?_)
              rw [nI_1]
              exact h7 _
            | true =>
              rw [hb] at h7
              refine br_f (show ¬ b2i true = 0 by decide) ?_
              iterate 5 (refine hX _ _ _ _ _ _ _ _ _ _ _ _ _ _ rfl ?_)
              rw [nI_1]
              exact h7 _
          | succ q ihq =>
            intro j hj
            have hwe := (hA.1.2.2.2.2.2.1 j (by omega)).2.1
            have hsl := aStr_le hA.1 (aWr (sT a) (sN a) j &&& n)
            have h7 := ihq (j + 1) (by omega)
            rw [aAll, ← Bool.and_assoc] at h7
            repeat refine hX _ _ _ _ _ _ _ _ _ _ _ _ _ _ rfl ?_
            refine ⟨by unfold vp_in; decide, ?_⟩
            rw [show (1 : Int32).toNatClampNeg = 1 from rfl]
            rw [hn]
            repeat refine hX _ _ _ _ _ _ _ _ _ _ _ _ _ _ rfl ?_
            refine br_f (show ¬ nI (aNs (sT a)) ≤ nI j from nI_ge (by omega) (by omega)) ?_
            repeat refine hX _ _ _ _ _ _ _ _ _ _ _ _ _ _ rfl ?_
            cases hb : (oFew (aGa (sT a) (sN a) set n) n && aAll (sT a) (sN a) n set j) with
            | false =>
              rw [hb, Bool.false_and] at h7
              refine br_t (show b2i false = 0 from rfl) ?_
              iterate 4 (refine hX _ _ _ _ _ _ _ _ _ _ _ _ _ _ rfl ?_)
              rw [nI_1]
              exact h7
            | true =>
              rw [hb, Bool.true_and] at h7
              refine br_f (show ¬ b2i true = 0 by decide) ?_
              repeat refine hX _ _ _ _ _ _ _ _ _ _ _ _ _ _ rfl ?_
              refine Or.inl ⟨_, _, hhas _ j (by omega), ?_⟩
              repeat refine hX _ _ _ _ _ _ _ _ _ _ _ _ _ _ rfl ?_
              cases hb2 : set.testBit j with
              | false =>
                rw [hb2] at h7
                refine br_t (show b2i false = 0 from rfl) ?_
                iterate 5 (refine hX _ _ _ _ _ _ _ _ _ _ _ _ _ _ rfl ?_)
                rw [nI_1]
                exact h7
              | true =>
                rw [hb2] at h7
                refine br_f (show ¬ b2i true = 0 by decide) ?_
                repeat refine hX _ _ _ _ _ _ _ _ _ _ _ _ _ _ rfl ?_
                refine Or.inl ⟨_, _, hwr j (by omega), ?_⟩
                iterate 3 (refine hX _ _ _ _ _ _ _ _ _ _ _ _ _ _ rfl ?_)
                rw [q_and _ (hwl j) _ (show n < 64 by omega)]
                refine Or.inl ⟨_, _, hst _ (q_and_lt (hwl j)), ?_⟩
                repeat refine hX _ _ _ _ _ _ _ _ _ _ _ _ _ _ rfl ?_
                rw [show (4 : Int32) + nI j = nI (4 + j) from nI_add 4 j]
                refine ⟨vp_in_nI (by omega) (by decide), ?_⟩
                rw [nI_clamp (by omega)]
                rw [h5 j (by omega)]
                repeat refine hX _ _ _ _ _ _ _ _ _ _ _ _ _ _ rfl ?_
                rw [Nat.and_comm n] at h7
                by_cases hle : aWe (sT a) j ≤ aStr (sT a) (aWr (sT a) (sN a) j &&& n)
                · refine br_f (show ¬ nI (aStr (sT a) (aWr (sT a) (sN a) j &&& n)) < nI (aWe (sT a) j) from nI_nlt hle (by omega)) ?_
                  rw [decide_eq_true hle] at h7
                  iterate 5 (refine hX _ _ _ _ _ _ _ _ _ _ _ _ _ _ rfl ?_)
                  rw [nI_1]
                  exact h7
                · refine br_t (show nI (aStr (sT a) (aWr (sT a) (sN a) j &&& n)) < nI (aWe (sT a) j) from nI_lt (by omega) (by omega)) ?_
                  rw [decide_eq_false hle] at h7
                  iterate 4 (refine hX _ _ _ _ _ _ _ _ _ _ _ _ _ _ rfl ?_)
                  rw [nI_1]
                  exact h7
        have h61 : X 61 [some (.ref 1000), some (.int (nI set)), some (.int (oI (aGa (sT a) (sN a) set n))), some (.int (nI n)), v4, v5] [.int (b2i (oFew (aGa (sT a) (sN a) set n) n))] (hc, hM m) 0 0 := by
          have h7 := inner (aNs (sT a)) 0 (by omega)
          rw [aAll, Bool.and_true] at h7
          rcases hv with ⟨rfl, rfl⟩ | ⟨z1, z2, rfl, rfl⟩
          all_goals
            iterate 3 (refine hX _ _ _ _ _ _ _ _ _ _ _ _ _ _ rfl ?_)
            exact h7
        repeat refine hX _ _ _ _ _ _ _ _ _ _ _ _ _ _ rfl ?_
        refine ⟨by unfold vp_in; decide, ?_⟩
        rw [show (2 : Int32).toNatClampNeg = 2 from rfl]
        rw [hp]
        iterate 2 (refine hX _ _ _ _ _ _ _ _ _ _ _ _ _ _ rfl ?_)
        rw [e2]
        refine br_f (show ¬ nI (2 ^ aNp (sT a)) ≤ nI n from nI_ge (by omega) (by omega)) ?_
        repeat refine hX _ _ _ _ _ _ _ _ _ _ _ _ _ _ rfl ?_
        cases ho : aGa (sT a) (sN a) set n with
        | none =>
          rw [ho] at h61
          refine br_t (show oI none = -9 from rfl) ?_
          iterate 2 (refine hX _ _ _ _ _ _ _ _ _ _ _ _ _ _ rfl ?_)
          exact h61
        | some b =>
          have hbn := aGa_lt n b ho
          have hl1 := pop_le n
          have hl2 := pop_le b
          rw [ho] at h61
          refine br_f (show ¬ nI b = -9 from n9 b (by omega)) ?_
          repeat refine hX _ _ _ _ _ _ _ _ _ _ _ _ _ _ rfl ?_
          refine Or.inl ⟨_, _, hbc _ n (by omega), ?_⟩
          repeat refine hX _ _ _ _ _ _ _ _ _ _ _ _ _ _ rfl ?_
          refine Or.inl ⟨_, _, hbc _ b (by omega), ?_⟩
          repeat refine hX _ _ _ _ _ _ _ _ _ _ _ _ _ _ rfl ?_
          by_cases hl : pop n < pop b
          · refine br_f (show ¬ nI (pop b) ≤ nI (pop n) from nI_ge hl (by omega)) ?_
            rw [show oFew (some b) n = true from decide_eq_true hl] at h61
            iterate 2 (refine hX _ _ _ _ _ _ _ _ _ _ _ _ _ _ rfl ?_)
            exact h61
          · refine br_t (show nI (pop b) ≤ nI (pop n) from nI_le (by omega) (by omega)) ?_
            rw [show oFew (some b) n = false from decide_eq_false hl] at h61
            iterate 1 (refine hX _ _ _ _ _ _ _ _ _ _ _ _ _ _ rfl ?_)
            exact h61
    repeat refine hX _ _ _ _ _ _ _ _ _ _ _ _ _ _ rfl ?_
    refine ⟨by unfold vp_in; decide, ?_⟩
    rw [show (1 : Int32).toNatClampNeg = 1 from rfl]
    rw [hn]
    iterate 2 (refine hX _ _ _ _ _ _ _ _ _ _ _ _ _ _ rfl ?_)
    rw [e1]
    repeat refine hX _ _ _ _ _ _ _ _ _ _ _ _ _ _ rfl ?_
    refine Or.inl ⟨_, _, hin64 _, ?_⟩
    repeat refine hX _ _ _ _ _ _ _ _ _ _ _ _ _ _ rfl ?_
    refine br_t (show ¬ b2i true = 0 by decide) ?_
    iterate 4 (refine hX _ _ _ _ _ _ _ _ _ _ _ _ _ _ rfl ?_)
    exact loop (2 ^ aNp (sT a)) 0 none none (by omega) (Or.inl ⟨rfl, rfl⟩)
theorem m_bareU (S : zS) (d : Nat) (hc : List zC) (m : mS) {A : aT} {N : aN} (hA : TWf A) (hT : MTold (mTold m) A) (hW : NWf A N) (hN : MRow A (mNow m) 0 N) {y : Nat} (hy : y < aNy A) : Ex S (d + 6) 0 0 129 [.ref 1000, .int (nI y), .int 1] (hc, hM m) (some (.int (aBrU A N (aNy A - y) 0 y))) (hc, hM m) := by
  have hns := hA.2.2.2.1
  have hny := hA.2.1
  have hya := fun x => m_isYard S (d + 3) hc m hA hT x
  have hsn := fun x => m_statueIn S (d + 4) hc m hA hT hW hN x
  have hmo := fun j (hj : j < aNs A) => m_moves S d hc m hA hT hW hN hj
  (refine exI rfl rfl ?_; intro X hX)
  have loop : ∀ (n p : Nat) (v5 : Option Value), y + p + n = aNy A → (v5 = none ∨ ∃ z, v5 = some (.int z)) → aBrU A N n p (y + p) = aBrU A N (aNy A - y) 0 y → X 5 [some (.ref 1000), some (.int (nI y)), some (.int 1), some (.int (nI p)), some (.int (nI (y + p))), v5] [] (hc, hM m) 0 0 := by
    intro n
    induction n with
    | zero =>
      intro p v5 hp hv he
      have hf := hya (nI (y + p))
      have hnb : inb (nI (y + p)) (aNy A) = false := by
        unfold inb
        rw [decide_eq_false (nI_nlt (show aNy A ≤ y + p by omega) (by omega)), Bool.and_false]
      rw [hnb] at hf
      repeat refine hX _ _ _ _ _ _ _ _ _ _ _ _ _ _ rfl ?_
      refine Or.inl ⟨_, _, hf, ?_⟩
      repeat refine hX _ _ _ _ _ _ _ _ _ _ _ _ _ _ rfl ?_
      refine br_t (show b2i false = 0 from rfl) ?_
      repeat refine hX _ _ _ _ _ _ _ _ _ _ _ _ _ _ rfl ?_
      exact ⟨by rw [← he]; rfl, rfl⟩
    | succ n ih =>
      intro p v5 hp hv he
      have hf := hya (nI (y + p))
      rw [inb_nI (show y + p < aNy A by omega) (by omega)] at hf
      rw [aBrU] at he
      rcases hv with rfl | ⟨z, rfl⟩
      all_goals
        repeat refine hX _ _ _ _ _ _ _ _ _ _ _ _ _ _ rfl ?_
        refine Or.inl ⟨_, _, hf, ?_⟩
        repeat refine hX _ _ _ _ _ _ _ _ _ _ _ _ _ _ rfl ?_
        refine br_f (show ¬ b2i true = 0 by decide) ?_
        repeat refine hX _ _ _ _ _ _ _ _ _ _ _ _ _ _ rfl ?_
        refine Or.inl ⟨_, _, hsn _, ?_⟩
        repeat refine hX _ _ _ _ _ _ _ _ _ _ _ _ _ _ rfl ?_
        by_cases h9 : aSin A N (nI (y + p)) = -9
        · rw [if_pos h9] at he
          refine br_f (show ¬ ¬ aSin A N (nI (y + p)) = -9 from fun h => h h9) ?_
          repeat refine hX _ _ _ _ _ _ _ _ _ _ _ _ _ _ rfl ?_
          exact ⟨by rw [← he], rfl⟩
        · rw [if_neg h9] at he
          refine br_t (show ¬ aSin A N (nI (y + p)) = -9 from h9) ?_
          obtain ⟨j, hj, hsj⟩ := aSin_some hA h9
          have hmj := hmo j hj
          have hat : aMvAt A N (y + p) = aMov A N j := by unfold aMvAt; rw [hsj, nI_clamp (by omega)]
          rw [hat] at he
          have h7 := ih (p + 1) (some (.int (aSin A N (nI (y + p))))) (by omega) (Or.inr ⟨_, rfl⟩)
          rw [hsj] at h7 ⊢
          repeat refine hX _ _ _ _ _ _ _ _ _ _ _ _ _ _ rfl ?_
          refine Or.inl ⟨_, _, hmj, ?_⟩
          repeat refine hX _ _ _ _ _ _ _ _ _ _ _ _ _ _ rfl ?_
          cases hb : aMov A N j with
          | false =>
            rw [hb] at he
            refine br_f (show ¬ ¬ b2i false = 0 by decide) ?_
            repeat refine hX _ _ _ _ _ _ _ _ _ _ _ _ _ _ rfl ?_
            exact ⟨by rw [← he]; rfl, rfl⟩
          | true =>
            rw [hb] at he
            refine br_t (show ¬ b2i true = 0 by decide) ?_
            iterate 6 (refine hX _ _ _ _ _ _ _ _ _ _ _ _ _ _ rfl ?_)
            rw [nI_1, nI_1]
            exact h7 he
  iterate 4 (refine hX _ _ _ _ _ _ _ _ _ _ _ _ _ _ rfl ?_)
  exact loop (aNy A - y) 0 none (by omega) (Or.inl rfl) rfl
theorem m_bareD (S : zS) (d : Nat) (hc : List zC) (m : mS) {A : aT} {N : aN} (hA : TWf A) (hT : MTold (mTold m) A) (hW : NWf A N) (hN : MRow A (mNow m) 0 N) {y : Nat} (hy : y < aNy A) : Ex S (d + 6) 0 0 129 [.ref 1000, .int (nI y), .int (-1)] (hc, hM m) (some (.int (aBrD A N (y + 1) 0))) (hc, hM m) := by
  have hns := hA.2.2.2.1
  have hny := hA.2.1
  have hya := fun x => m_isYard S (d + 3) hc m hA hT x
  have hsn := fun x => m_statueIn S (d + 4) hc m hA hT hW hN x
  have hmo := fun j (hj : j < aNs A) => m_moves S d hc m hA hT hW hN hj
  (refine exI rfl rfl ?_; intro X hX)
  have loop : ∀ (f p : Nat) (v5 : Option Value), f + p = y + 1 → (v5 = none ∨ ∃ z, v5 = some (.int z)) → aBrD A N f p = aBrD A N (y + 1) 0 → X 5 [some (.ref 1000), some (.int (nI y)), some (.int (-1)), some (.int (nI p)), some (.int (nI f - 1)), v5] [] (hc, hM m) 0 0 := by
    intro f
    induction f with
    | zero =>
      intro p v5 hp hv he
      have hf := hya (-1)
      rw [show inb (-1) (aNy A) = false from rfl] at hf
      rw [show nI 0 - 1 = -1 from rfl]
      repeat refine hX _ _ _ _ _ _ _ _ _ _ _ _ _ _ rfl ?_
      refine Or.inl ⟨_, _, hf, ?_⟩
      repeat refine hX _ _ _ _ _ _ _ _ _ _ _ _ _ _ rfl ?_
      refine br_t (show b2i false = 0 from rfl) ?_
      repeat refine hX _ _ _ _ _ _ _ _ _ _ _ _ _ _ rfl ?_
      exact ⟨by rw [← he]; rfl, rfl⟩
    | succ f ih =>
      intro p v5 hp hv he
      have hf := hya (nI f)
      rw [inb_nI (show f < aNy A by omega) (by omega)] at hf
      rw [aBrD] at he
      rw [nI_pred]
      rcases hv with rfl | ⟨z, rfl⟩
      all_goals
        repeat refine hX _ _ _ _ _ _ _ _ _ _ _ _ _ _ rfl ?_
        refine Or.inl ⟨_, _, hf, ?_⟩
        repeat refine hX _ _ _ _ _ _ _ _ _ _ _ _ _ _ rfl ?_
        refine br_f (show ¬ b2i true = 0 by decide) ?_
        repeat refine hX _ _ _ _ _ _ _ _ _ _ _ _ _ _ rfl ?_
        refine Or.inl ⟨_, _, hsn _, ?_⟩
        repeat refine hX _ _ _ _ _ _ _ _ _ _ _ _ _ _ rfl ?_
        by_cases h9 : aSin A N (nI f) = -9
        · rw [if_pos h9] at he
          refine br_f (show ¬ ¬ aSin A N (nI f) = -9 from fun h => h h9) ?_
          repeat refine hX _ _ _ _ _ _ _ _ _ _ _ _ _ _ rfl ?_
          exact ⟨by rw [← he], rfl⟩
        · rw [if_neg h9] at he
          refine br_t (show ¬ aSin A N (nI f) = -9 from h9) ?_
          obtain ⟨j, hj, hsj⟩ := aSin_some hA h9
          have hmj := hmo j hj
          have hat : aMvAt A N f = aMov A N j := by unfold aMvAt; rw [hsj, nI_clamp (by omega)]
          rw [hat] at he
          have h7 := ih (p + 1) (some (.int (aSin A N (nI f)))) (by omega) (Or.inr ⟨_, rfl⟩)
          rw [hsj] at h7 ⊢
          repeat refine hX _ _ _ _ _ _ _ _ _ _ _ _ _ _ rfl ?_
          refine Or.inl ⟨_, _, hmj, ?_⟩
          repeat refine hX _ _ _ _ _ _ _ _ _ _ _ _ _ _ rfl ?_
          cases hb : aMov A N j with
          | false =>
            rw [hb] at he
            refine br_f (show ¬ ¬ b2i false = 0 by decide) ?_
            repeat refine hX _ _ _ _ _ _ _ _ _ _ _ _ _ _ rfl ?_
            exact ⟨by rw [← he]; rfl, rfl⟩
          | true =>
            rw [hb] at he
            refine br_t (show ¬ b2i true = 0 by decide) ?_
            iterate 6 (refine hX _ _ _ _ _ _ _ _ _ _ _ _ _ _ rfl ?_)
            rw [nI_1, ← Int32.sub_eq_add_neg]
            exact h7 he
  have h7 := loop (y + 1) 0 none (by omega) (Or.inl rfl) rfl
  rw [nI_pred] at h7
  iterate 4 (refine hX _ _ _ _ _ _ _ _ _ _ _ _ _ _ rfl ?_)
  exact h7
theorem m_bare (S : zS) (d : Nat) (hc : List zC) (m : mS) {A : aT} {N : aN} (hA : TWf A) (hT : MTold (mTold m) A) (hW : NWf A N) (hN : MRow A (mNow m) 0 N) (y w : Int32) : Ex S (d + 7) 0 0 130 [.ref 1000, .int y, .int w] (hc, hM m) (some (.int (spBare A N y w))) (hc, hM m) := by
  have hny := hA.2.1
  have hya := m_isYard S (d + 4) hc m hA hT y
  have hin64 := fun h => m_in S (d + 5) h w.toInt64 0 (lN 1)
  rw [in64c w (by decide)] at hin64
  unfold spBare
  cases hin : inb y (aNy A) with
  | false =>
    rw [hin] at hya
    (refine exI rfl rfl ?_; intro X hX)
    repeat refine hX _ _ _ _ _ _ _ _ _ _ _ _ _ _ rfl ?_
    refine Or.inl ⟨_, _, hya, ?_⟩
    repeat refine hX _ _ _ _ _ _ _ _ _ _ _ _ _ _ rfl ?_
    refine br_t (show b2i false = 0 from rfl) ?_
    repeat refine hX _ _ _ _ _ _ _ _ _ _ _ _ _ _ rfl ?_
    exact ⟨rfl, rfl⟩
  | true =>
    rw [hin] at hya
    obtain ⟨j, hj, rfl⟩ := inb_of hin (by omega)
    cases hiw : inb w 2 with
    | false =>
      rw [hiw] at hin64
      (refine exI rfl rfl ?_; intro X hX)
      repeat refine hX _ _ _ _ _ _ _ _ _ _ _ _ _ _ rfl ?_
      refine Or.inl ⟨_, _, hya, ?_⟩
      repeat refine hX _ _ _ _ _ _ _ _ _ _ _ _ _ _ rfl ?_
      refine br_f (show ¬ b2i true = 0 by decide) ?_
      repeat refine hX _ _ _ _ _ _ _ _ _ _ _ _ _ _ rfl ?_
      refine Or.inl ⟨_, _, hin64 _, ?_⟩
      repeat refine hX _ _ _ _ _ _ _ _ _ _ _ _ _ _ rfl ?_
      refine br_f (show ¬ ¬ b2i false = 0 by decide) ?_
      repeat refine hX _ _ _ _ _ _ _ _ _ _ _ _ _ _ rfl ?_
      exact ⟨rfl, rfl⟩
    | true =>
      rw [hiw] at hin64
      simp only [cond_true, Bool.and_self, nI_clamp (show j < 2 ^ 31 by omega)]
      have hbu := m_bareU S d hc m hA hT hW hN hj
      have hbd := m_bareD S d hc m hA hT hW hN hj
      generalize aBrU A N (aNy A - j) 0 j = up at hbu ⊢
      generalize aBrD A N (j + 1) 0 = dn at hbd ⊢
      (refine exI rfl rfl ?_; intro X hX)
      have h59 : ∀ u : Bool, (bif u then up else dn) = (bif aUp dn up then up else dn) → (¬ (bif u then up else dn) = -9 → u = aUp dn up) → X 59 [some (.ref 1000), some (.int (nI j)), some (.int w), some (.int dn), some (.int up), none, none] [.int (b2i u)] (hc, hM m) 0 0 := by
        intro u e1 e2
        have h72 : X 72 [some (.ref 1000), some (.int (nI j)), some (.int w), some (.int dn), some (.int up), some (.int (b2i u)), none] [.int (bif u then up else dn)] (hc, hM m) 0 0 := by
          have e3 : aBare dn up w = if w = 0 then (bif u then up else dn) else (if (bif u then up else dn) = -9 ∨ (bif u then up else dn) = 0 then -9 else b2i (aUp dn up)) := by unfold aBare; rw [← e1]
          generalize hv : (bif u then up else dn) = v at e2 e3 ⊢
          repeat refine hX _ _ _ _ _ _ _ _ _ _ _ _ _ _ rfl ?_
          by_cases hw : w = 0
          · refine br_f (show ¬ ¬ w = 0 from fun h => h hw) ?_
            repeat refine hX _ _ _ _ _ _ _ _ _ _ _ _ _ _ rfl ?_
            exact ⟨by rw [e3, if_pos hw], rfl⟩
          · refine br_t (show ¬ w = 0 from hw) ?_
            repeat refine hX _ _ _ _ _ _ _ _ _ _ _ _ _ _ rfl ?_
            rw [if_neg hw] at e3
            by_cases h9 : v = -9
            · refine br_t (show v = -9 from h9) ?_
              repeat refine hX _ _ _ _ _ _ _ _ _ _ _ _ _ _ rfl ?_
              exact ⟨by rw [e3, if_pos (Or.inl h9)], rfl⟩
            · refine br_f (show ¬ v = -9 from h9) ?_
              repeat refine hX _ _ _ _ _ _ _ _ _ _ _ _ _ _ rfl ?_
              by_cases h0 : v = 0
              · refine br_f (show ¬ ¬ v = 0 from fun h => h h0) ?_
                repeat refine hX _ _ _ _ _ _ _ _ _ _ _ _ _ _ rfl ?_
                exact ⟨by rw [e3, if_pos (Or.inr h0)], rfl⟩
              · refine br_t (show ¬ v = 0 from h0) ?_
                repeat refine hX _ _ _ _ _ _ _ _ _ _ _ _ _ _ rfl ?_
                rw [if_neg (fun h => h.elim h9 h0), ← e2 h9] at e3
                cases u with
                | false =>
                  refine br_t (show b2i false = 0 from rfl) ?_
                  repeat refine hX _ _ _ _ _ _ _ _ _ _ _ _ _ _ rfl ?_
                  exact ⟨by rw [e3]; rfl, rfl⟩
                | true =>
                  refine br_f (show ¬ b2i true = 0 by decide) ?_
                  repeat refine hX _ _ _ _ _ _ _ _ _ _ _ _ _ _ rfl ?_
                  exact ⟨by rw [e3]; rfl, rfl⟩
        repeat refine hX _ _ _ _ _ _ _ _ _ _ _ _ _ _ rfl ?_
        cases u with
        | false =>
          refine br_t (show b2i false = 0 from rfl) ?_
          iterate 1 (refine hX _ _ _ _ _ _ _ _ _ _ _ _ _ _ rfl ?_)
          exact h72
        | true =>
          refine br_f (show ¬ b2i true = 0 by decide) ?_
          iterate 2 (refine hX _ _ _ _ _ _ _ _ _ _ _ _ _ _ rfl ?_)
          exact h72
      repeat refine hX _ _ _ _ _ _ _ _ _ _ _ _ _ _ rfl ?_
      refine Or.inl ⟨_, _, hya, ?_⟩
      repeat refine hX _ _ _ _ _ _ _ _ _ _ _ _ _ _ rfl ?_
      refine br_f (show ¬ b2i true = 0 by decide) ?_
      repeat refine hX _ _ _ _ _ _ _ _ _ _ _ _ _ _ rfl ?_
      refine Or.inl ⟨_, _, hin64 _, ?_⟩
      repeat refine hX _ _ _ _ _ _ _ _ _ _ _ _ _ _ rfl ?_
      refine br_t (show ¬ b2i true = 0 by decide) ?_
      repeat refine hX _ _ _ _ _ _ _ _ _ _ _ _ _ _ rfl ?_
      refine Or.inl ⟨_, _, hbd, ?_⟩
      repeat refine hX _ _ _ _ _ _ _ _ _ _ _ _ _ _ rfl ?_
      refine Or.inl ⟨_, _, hbu, ?_⟩
      repeat refine hX _ _ _ _ _ _ _ _ _ _ _ _ _ _ rfl ?_
      by_cases hd9 : dn = -9
      · refine br_t (show dn = -9 from hd9) ?_
        by_cases hu9 : up = -9
        · iterate 2 (refine hX _ _ _ _ _ _ _ _ _ _ _ _ _ _ rfl ?_)
          exact h59 true (by rw [hd9, hu9]; cases aUp (-9) (-9) <;> rfl) (fun h => absurd hu9 h)
        · have hau : aUp dn up = true := decide_eq_true ⟨hu9, Or.inl hd9⟩
          iterate 2 (refine hX _ _ _ _ _ _ _ _ _ _ _ _ _ _ rfl ?_)
          exact h59 true (by rw [hau]) (fun _ => hau.symm)
      · refine br_f (show ¬ dn = -9 from hd9) ?_
        repeat refine hX _ _ _ _ _ _ _ _ _ _ _ _ _ _ rfl ?_
        by_cases hu9 : up = -9
        · have hau : aUp dn up = false := decide_eq_false (fun h => h.1 hu9)
          refine br_t (show up = -9 from hu9) ?_
          iterate 1 (refine hX _ _ _ _ _ _ _ _ _ _ _ _ _ _ rfl ?_)
          exact h59 false (by rw [hau]) (fun _ => hau.symm)
        · refine br_f (show ¬ up = -9 from hu9) ?_
          repeat refine hX _ _ _ _ _ _ _ _ _ _ _ _ _ _ rfl ?_
          by_cases hlt : up < dn
          · have hau : aUp dn up = true := decide_eq_true ⟨hu9, Or.inr hlt⟩
            refine br_f (show ¬ dn ≤ up from Int32.not_le.mpr hlt) ?_
            iterate 2 (refine hX _ _ _ _ _ _ _ _ _ _ _ _ _ _ rfl ?_)
            exact h59 true (by rw [hau]) (fun _ => hau.symm)
          · have hau : aUp dn up = false := decide_eq_false (fun h => h.2.elim hd9 hlt)
            refine br_t (show dn ≤ up from Int32.not_lt.mp hlt) ?_
            iterate 1 (refine hX _ _ _ _ _ _ _ _ _ _ _ _ _ _ rfl ?_)
            exact h59 false (by rw [hau]) (fun _ => hau.symm)
