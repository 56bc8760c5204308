theorem m_undo (S : zS) (d : Nat) (hc : List zC) (m : mS) {a : aS} (hA : AWf a) (hR : MRel m a) : ∃ m', Ex S (d + 1) 0 0 127 [.ref 1000] (hc, hM m) (some (.int (spUndo a).1)) (hc, hM m') ∧ MRel m' (spUndo a).2 := by
  obtain ⟨hk10, -⟩ := hA.2.2.2.1
  obtain ⟨hkn, hH⟩ := hR.2.2.2.1
  unfold spUndo
  by_cases h0 : sK a = 0
  · rw [if_pos h0]
    refine ⟨m, ?_, hR⟩
    (refine exI rfl rfl ?_; intro X hX)
    repeat refine hX _ _ _ _ _ _ _ _ _ _ _ _ _ _ rfl ?_
    rw [hkn, h0]
    refine br_f (show ¬ ¬ nI 0 = 0 by decide) ?_
    repeat refine hX _ _ _ _ _ _ _ _ _ _ _ _ _ _ rfl ?_
    exact ⟨rfl, rfl⟩
  · rw [if_neg h0]
    obtain ⟨k, hk⟩ : ∃ k, sK a = k + 1 := ⟨sK a - 1, by omega⟩
    rw [hk] at hkn
    rw [show sK a - 1 = k by omega]
    refine ⟨s_mNow (s_mUndo m (nI k)) (cpf (fun j => mBefore m (19 * k + j)) (mNow m) 19), ?_, ⟨hR.1, ?_, hR.2.2.1, ⟨rfl, fun j hj => hH j (Nat.lt_of_lt_of_le (show j < k from hj) (by omega))⟩, hR.2.2.2.2.1, hR.2.2.2.2.2.1, hR.2.2.2.2.2.2⟩⟩
    rotate_left
    · refine MRow_of hA.1 (hH k (by omega)) (fun i hi => ?_)
      show cpf (fun j => mBefore m (19 * k + j)) (mNow m) 19 (0 + i) = _
      rw [Nat.zero_add, cpf, if_pos hi]
    · (refine exI rfl rfl ?_; intro X hX)
      have loop : ∀ (q i : Nat), i + q = 19 → X 22 [some (.ref 1000), some (.int (nI i))] [] (hc, hM (s_mNow (s_mUndo m (nI k)) (cpf (fun j => mBefore m (19 * k + j)) (mNow m) i))) 0 0 := by
        intro q
        induction q with
        | zero =>
          intro i hi
          have : i = 19 := by omega
          subst this
          repeat refine hX _ _ _ _ _ _ _ _ _ _ _ _ _ _ rfl ?_
          refine br_t (show nI 19 ≤ nI 19 from nI_le (by omega) (by decide)) ?_
          repeat refine hX _ _ _ _ _ _ _ _ _ _ _ _ _ _ rfl ?_
          exact ⟨rfl, rfl⟩
        | succ q ih =>
          intro i hi
          repeat refine hX _ _ _ _ _ _ _ _ _ _ _ _ _ _ rfl ?_
          refine br_f (show ¬ nI 19 ≤ nI i from nI_ge (by omega) (by decide)) ?_
          repeat refine hX _ _ _ _ _ _ _ _ _ _ _ _ _ _ rfl ?_
          rw [i19]
          refine ⟨vp_in_nI (by omega) (by decide), ?_⟩
          rw [nI_clamp (by omega)]
          repeat refine hX _ _ _ _ _ _ _ _ _ _ _ _ _ _ rfl ?_
          refine ⟨vp_in_nI (by omega) (by decide), ?_⟩
          rw [nI_clamp (by omega)]
          iterate 2 (refine hX _ _ _ _ _ _ _ _ _ _ _ _ _ _ rfl ?_)
          rw [nI_1]
          have h7 := ih (i + 1) (by omega)
          rw [← cpf_s] at h7
          exact h7
      repeat refine hX _ _ _ _ _ _ _ _ _ _ _ _ _ _ rfl ?_
      rw [hkn]
      refine br_t (show ¬ nI (k + 1) = 0 from nI_ne0 (by omega) (by omega)) ?_
      iterate 6 (refine hX _ _ _ _ _ _ _ _ _ _ _ _ _ _ rfl ?_)
      rw [hkn, nI_pred]
      iterate 2 (refine hX _ _ _ _ _ _ _ _ _ _ _ _ _ _ rfl ?_)
      have h8 := loop 19 0 (by omega)
      rw [cpf_0] at h8
      exact h8
theorem q_img : ∀ k0 k1 : Bool, ∀ x, x < 2 → nI (k0.toNat + 2 * k1.toNat) ||| (1 <<< (nI x &&& 31)) = nI ((aup (fun i => bif decide (i = 0) then k0 else k1) x true 0).toNat + 2 * (aup (fun i => bif decide (i = 0) then k0 else k1) x true 1).toNat) := by decide
theorem q_imh : ∀ k0 k1 : Bool, ∀ x, x < 2 → zhas (nI (k0.toNat + 2 * k1.toNat)) (nI x) = (bif decide (x = 0) then k0 else k1) := by decide
theorem m_keep (S : zS) (d : Nat) (hc : List zC) (m : mS) {a : aS} (hA : AWf a) (hR : MRel m a) (x : Int32) : ∃ m', Ex S (d + 2) 0 0 146 [.ref 1000, .int x] (hc, hM m) (some (.int (spKeep a x).1)) (hc, hM m') ∧ MRel m' (spKeep a x).2 := by
  have hbc := fun h => m_ones S d h (nCo_lt hA.1 hA.2.1)
  have hin64 := fun h => m_in S d h x.toInt64 0 (lN 1)
  rw [in64c x (by decide)] at hin64
  obtain ⟨hmi, him⟩ := hR.2.2.2.2.1
  have hN := MRow_0 hR.2.1
  unfold spKeep
  cases hin : inb x 2 with
  | false =>
    rw [hin] at hin64
    refine ⟨m, ?_, hR⟩
    (refine exI rfl rfl ?_; intro X hX)
    repeat refine hX _ _ _ _ _ _ _ _ _ _ _ _ _ _ rfl ?_
    refine Or.inl ⟨_, _, hin64 _, ?_⟩
    repeat refine hX _ _ _ _ _ _ _ _ _ _ _ _ _ _ rfl ?_
    refine br_f (show ¬ ¬ b2i false = 0 by decide) ?_
    repeat refine hX _ _ _ _ _ _ _ _ _ _ _ _ _ _ rfl ?_
    exact ⟨rfl, rfl⟩
  | true =>
    rw [hin] at hin64
    obtain ⟨x, hx, rfl⟩ := inb_of hin (by decide)
    simp only [cond_true, nI_clamp (show x < 2 ^ 31 by omega)]
    have hor : nI ((sKe a 0).toNat + 2 * (sKe a 1).toNat) ||| (1 <<< (nI x &&& 31)) = nI ((aup (sKe a) x true 0).toNat + 2 * (aup (sKe a) x true 1).toNat) := by
      rw [q_img _ _ x hx]
      rcases (show x = 0 ∨ x = 1 by omega) with rfl | rfl <;> rfl
    refine ⟨s_mImaged (s_mImages m (cpo (mImages m) (mNow m) (19 * x) 19)) (nI ((aup (sKe a) x true 0).toNat + 2 * (aup (sKe a) x true 1).toNat)), ?_, ⟨hR.1, hR.2.1, hR.2.2.1, hR.2.2.2.1, ⟨rfl, fun i hi hk => ?_⟩, hR.2.2.2.2.2.1, hR.2.2.2.2.2.2⟩⟩
    rotate_left
    · show MRow (sT a) (cpo (mImages m) (mNow m) (19 * x) 19) (19 * i) (aup (sIm a) x (sN a) i)
      by_cases h : i = x
      · subst h
        rw [aup_s]
        refine MRow_of hA.1 hR.2.1 (fun q hq => ?_)
        unfold cpo
        rw [if_pos (by omega)]
        exact congrArg (mNow m) (by omega)
      · rw [aup_n _ _ h]
        have hk : aup (sKe a) x true i = true := hk
        rw [aup_n _ _ h] at hk
        refine MRow_of hA.1 (him i hi hk) (fun q hq => ?_)
        unfold cpo
        rw [if_neg (by omega)]
    · (refine exI rfl rfl ?_; intro X hX)
      have loop : ∀ (q i : Nat), i + q = 19 → X 14 [some (.ref 1000), some (.int (nI x)), some (.int (nI i))] [] (hc, hM (s_mImages m (cpo (mImages m) (mNow m) (19 * x) i))) 0 0 := by
        intro q
        induction q with
        | zero =>
          intro i hi
          have : i = 19 := by omega
          subst this
          repeat refine hX _ _ _ _ _ _ _ _ _ _ _ _ _ _ rfl ?_
          refine br_t (show nI 19 ≤ nI 19 from nI_le (by omega) (by decide)) ?_
          repeat refine hX _ _ _ _ _ _ _ _ _ _ _ _ _ _ rfl ?_
          rw [hmi, hor]
          refine ⟨by unfold vp_in; decide, ?_⟩
          rw [show (6 : Int32).toNatClampNeg = 6 from rfl]
          rw [hN.1]
          repeat refine hX _ _ _ _ _ _ _ _ _ _ _ _ _ _ rfl ?_
          refine Or.inl ⟨_, _, hbc _, ?_⟩
          repeat refine hX _ _ _ _ _ _ _ _ _ _ _ _ _ _ rfl ?_
          exact ⟨rfl, rfl⟩
        | succ q ih =>
          intro i hi
          repeat refine hX _ _ _ _ _ _ _ _ _ _ _ _ _ _ rfl ?_
          refine br_f (show ¬ nI 19 ≤ nI i from nI_ge (by omega) (by decide)) ?_
          repeat refine hX _ _ _ _ _ _ _ _ _ _ _ _ _ _ rfl ?_
          refine ⟨vp_in_nI (by omega) (by decide), ?_⟩
          rw [nI_clamp (by omega)]
          repeat refine hX _ _ _ _ _ _ _ _ _ _ _ _ _ _ rfl ?_
          rw [i19]
          refine ⟨vp_in_nI (by omega) (by decide), ?_⟩
          rw [nI_clamp (by omega)]
          iterate 2 (refine hX _ _ _ _ _ _ _ _ _ _ _ _ _ _ rfl ?_)
          rw [nI_1]
          have h7 := ih (i + 1) (by omega)
          rw [← cpo_s] at h7
          exact h7
      repeat refine hX _ _ _ _ _ _ _ _ _ _ _ _ _ _ rfl ?_
      refine Or.inl ⟨_, _, hin64 _, ?_⟩
      repeat refine hX _ _ _ _ _ _ _ _ _ _ _ _ _ _ rfl ?_
      refine br_t (show ¬ b2i true = 0 by decide) ?_
      iterate 2 (refine hX _ _ _ _ _ _ _ _ _ _ _ _ _ _ rfl ?_)
      have h8 := loop 19 0 (by omega)
      rw [cpo_0] at h8
      exact h8
theorem m_back (S : zS) (d : Nat) (hc : List zC) (m : mS) {a : aS} (hA : AWf a) (hR : MRel m a) (x : Int32) : ∃ m', Ex S (d + 2) 0 0 147 [.ref 1000, .int x] (hc, hM m) (some (.int (spBack a x).1)) (hc, hM m') ∧ MRel m' (spBack a x).2 := by
  have hin64 := fun h => m_in S d h x.toInt64 0 (lN 1)
  rw [in64c x (by decide)] at hin64
  obtain ⟨hmi, him⟩ := hR.2.2.2.2.1
  unfold spBack
  cases hin : inb x 2 with
  | false =>
    rw [hin] at hin64
    refine ⟨m, ?_, hR⟩
    (refine exI rfl rfl ?_; intro X hX)
    repeat refine hX _ _ _ _ _ _ _ _ _ _ _ _ _ _ rfl ?_
    refine Or.inl ⟨_, _, hin64 _, ?_⟩
    repeat refine hX _ _ _ _ _ _ _ _ _ _ _ _ _ _ rfl ?_
    refine br_f (show ¬ ¬ b2i false = 0 by decide) ?_
    repeat refine hX _ _ _ _ _ _ _ _ _ _ _ _ _ _ rfl ?_
    exact ⟨rfl, rfl⟩
  | true =>
    rw [hin] at hin64
    obtain ⟨x, hx, rfl⟩ := inb_of hin (by decide)
    simp only [cond_true, nI_clamp (show x < 2 ^ 31 by omega)]
    have hha := fun h => m_has S d h (nI ((sKe a 0).toNat + 2 * (sKe a 1).toNat)) (nI x)
    have hke : zhas (nI ((sKe a 0).toNat + 2 * (sKe a 1).toNat)) (nI x) = sKe a x := by
      rw [q_imh _ _ x hx]
      rcases (show x = 0 ∨ x = 1 by omega) with rfl | rfl <;> rfl
    rw [hke] at hha
    cases hk : sKe a x with
    | false =>
      rw [hk] at hha
      refine ⟨m, ?_, hR⟩
      (refine exI rfl rfl ?_; intro X hX)
      repeat refine hX _ _ _ _ _ _ _ _ _ _ _ _ _ _ rfl ?_
      refine Or.inl ⟨_, _, hin64 _, ?_⟩
      repeat refine hX _ _ _ _ _ _ _ _ _ _ _ _ _ _ rfl ?_
      refine br_t (show ¬ b2i true = 0 by decide) ?_
      repeat refine hX _ _ _ _ _ _ _ _ _ _ _ _ _ _ rfl ?_
      rw [hmi]
      refine Or.inl ⟨_, _, hha _, ?_⟩
      repeat refine hX _ _ _ _ _ _ _ _ _ _ _ _ _ _ rfl ?_
      refine br_f (show ¬ ¬ b2i false = 0 by decide) ?_
      repeat refine hX _ _ _ _ _ _ _ _ _ _ _ _ _ _ rfl ?_
      exact ⟨rfl, rfl⟩
    | true =>
      rw [hk] at hha
      have hWi := hA.2.2.2.2.1 x hx hk
      have hbc := fun h => m_ones S d h (nCo_lt hA.1 hWi)
      have hrow : MRow (sT a) (cpf (fun j => mImages m (19 * x + j)) (mNow m) 19) 0 (sIm a x) := by
        refine MRow_of hA.1 (him x hx hk) (fun i hi => ?_)
        rw [Nat.zero_add, cpf, if_pos hi]
      refine ⟨s_mUndo (s_mNow m (cpf (fun j => mImages m (19 * x + j)) (mNow m) 19)) 0, ?_, ⟨hR.1, hrow, hR.2.2.1, ⟨rfl, fun j hj => absurd hj (Nat.not_lt_zero j)⟩, hR.2.2.2.2.1, hR.2.2.2.2.2.1, hR.2.2.2.2.2.2⟩⟩
      have h6 : mNow (s_mNow m (cpf (fun j => mImages m (19 * x + j)) (mNow m) 19)) 6 = nI (nCo (sIm a x)) := (MRow_0 hrow).1
      (refine exI rfl rfl ?_; intro X hX)
      have loop : ∀ (q i : Nat), i + q = 19 → X 28 [some (.ref 1000), some (.int (nI x)), some (.int (nI i))] [] (hc, hM (s_mNow m (cpf (fun j => mImages m (19 * x + j)) (mNow m) i))) 0 0 := by
        intro q
        induction q with
        | zero =>
          intro i hi
          have : i = 19 := by omega
          subst this
          repeat refine hX _ _ _ _ _ _ _ _ _ _ _ _ _ _ rfl ?_
          refine br_t (show nI 19 ≤ nI 19 from nI_le (by omega) (by decide)) ?_
          repeat refine hX _ _ _ _ _ _ _ _ _ _ _ _ _ _ rfl ?_
          refine ⟨by unfold vp_in; decide, ?_⟩
          rw [show (6 : Int32).toNatClampNeg = 6 from rfl]
          rw [h6]
          repeat refine hX _ _ _ _ _ _ _ _ _ _ _ _ _ _ rfl ?_
          refine Or.inl ⟨_, _, hbc _, ?_⟩
          repeat refine hX _ _ _ _ _ _ _ _ _ _ _ _ _ _ rfl ?_
          exact ⟨rfl, rfl⟩
        | succ q ih =>
          intro i hi
          repeat refine hX _ _ _ _ _ _ _ _ _ _ _ _ _ _ rfl ?_
          refine br_f (show ¬ nI 19 ≤ nI i from nI_ge (by omega) (by decide)) ?_
          repeat refine hX _ _ _ _ _ _ _ _ _ _ _ _ _ _ rfl ?_
          rw [i19]
          refine ⟨vp_in_nI (by omega) (by decide), ?_⟩
          rw [nI_clamp (by omega)]
          repeat refine hX _ _ _ _ _ _ _ _ _ _ _ _ _ _ rfl ?_
          refine ⟨vp_in_nI (by omega) (by decide), ?_⟩
          rw [nI_clamp (by omega)]
          iterate 2 (refine hX _ _ _ _ _ _ _ _ _ _ _ _ _ _ rfl ?_)
          rw [nI_1]
          have h7 := ih (i + 1) (by omega)
          rw [← cpf_s] at h7
          exact h7
      repeat refine hX _ _ _ _ _ _ _ _ _ _ _ _ _ _ rfl ?_
      refine Or.inl ⟨_, _, hin64 _, ?_⟩
      repeat refine hX _ _ _ _ _ _ _ _ _ _ _ _ _ _ rfl ?_
      refine br_t (show ¬ b2i true = 0 by decide) ?_
      repeat refine hX _ _ _ _ _ _ _ _ _ _ _ _ _ _ rfl ?_
      rw [hmi]
      refine Or.inl ⟨_, _, hha _, ?_⟩
      repeat refine hX _ _ _ _ _ _ _ _ _ _ _ _ _ _ rfl ?_
      refine br_t (show ¬ b2i true = 0 by decide) ?_
      iterate 2 (refine hX _ _ _ _ _ _ _ _ _ _ _ _ _ _ rfl ?_)
      have h8 := loop 19 0 (by omega)
      rw [cpf_0] at h8
      exact h8
