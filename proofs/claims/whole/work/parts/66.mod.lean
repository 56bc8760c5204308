/-! ===== the reference: town ===== -/
def hW (m : mS) (g rd rr nw : cF) (un ig le se a b c d : Int32) : List zC := [.inr (.inr (5, [.ref 1001, .ref 1002, .ref 1003, .ref 1004, .ref 1005, .int un, .ref 1006, .int ig, .int le, .ref 1007, .int se, .ref 1008, .ref 1009, .long (mTrace m), .int a, .int b, .int c, .int d])),
  .inl (0, 40, g), .inl (0, 40, rd), .inl (0, 19, rr), .inl (0, 19, nw), .inl (0, 190, mBefore m), .inl (0, 38, mImages m), .inl (0, 150, mText m), .inl (0, 6, mSeenOf m), .inl (0, 6, mSeenIs m)]
theorem setw_un (m : mS) (hc : List zC) (g rd rr nw : cF) (un ig le se a b c d : Int32) (Y : Int32) : z_set (hc, hW m g rd rr nw un ig le se a b c d) 1000 (.inr (.inr (5, [.ref 1001, .ref 1002, .ref 1003, .ref 1004, .ref 1005, .int un, .ref 1006, .int ig, .int le, .ref 1007, .int se, .ref 1008, .ref 1009, .long (mTrace m), .int a, .int b, .int c, .int d].set 5 (.int Y)))) = (hc, hW m g rd rr nw Y ig le se a b c d) := rfl
theorem setw_ig (m : mS) (hc : List zC) (g rd rr nw : cF) (un ig le se a b c d : Int32) (Y : Int32) : z_set (hc, hW m g rd rr nw un ig le se a b c d) 1000 (.inr (.inr (5, [.ref 1001, .ref 1002, .ref 1003, .ref 1004, .ref 1005, .int un, .ref 1006, .int ig, .int le, .ref 1007, .int se, .ref 1008, .ref 1009, .long (mTrace m), .int a, .int b, .int c, .int d].set 7 (.int Y)))) = (hc, hW m g rd rr nw un Y le se a b c d) := rfl
theorem setw_le (m : mS) (hc : List zC) (g rd rr nw : cF) (un ig le se a b c d : Int32) (Y : Int32) : z_set (hc, hW m g rd rr nw un ig le se a b c d) 1000 (.inr (.inr (5, [.ref 1001, .ref 1002, .ref 1003, .ref 1004, .ref 1005, .int un, .ref 1006, .int ig, .int le, .ref 1007, .int se, .ref 1008, .ref 1009, .long (mTrace m), .int a, .int b, .int c, .int d].set 8 (.int Y)))) = (hc, hW m g rd rr nw un ig Y se a b c d) := rfl
theorem setw_se (m : mS) (hc : List zC) (g rd rr nw : cF) (un ig le se a b c d : Int32) (Y : Int32) : z_set (hc, hW m g rd rr nw un ig le se a b c d) 1000 (.inr (.inr (5, [.ref 1001, .ref 1002, .ref 1003, .ref 1004, .ref 1005, .int un, .ref 1006, .int ig, .int le, .ref 1007, .int se, .ref 1008, .ref 1009, .long (mTrace m), .int a, .int b, .int c, .int d].set 10 (.int Y)))) = (hc, hW m g rd rr nw un ig le Y a b c d) := rfl
theorem setw_g (m : mS) (hc : List zC) (g rd rr nw : cF) (un ig le se a b c d : Int32) (G : cF) : z_set (hc, hW m g rd rr nw un ig le se a b c d) 1001 (.inl (0, 40, G)) = (hc, hW m G rd rr nw un ig le se a b c d) := rfl
theorem setw_nw (m : mS) (hc : List zC) (g rd rr nw : cF) (un ig le se a b c d : Int32) (G : cF) : z_set (hc, hW m g rd rr nw un ig le se a b c d) 1004 (.inl (0, 19, G)) = (hc, hW m g rd rr G un ig le se a b c d) := rfl
theorem hQ_hW (m : mS) (rd rr : cF) (a b c d : Int32) : hQ m rd rr a b c d = hW m (mTold m) rd rr (mNow m) (mUndo m) (mImaged m) (mLength m) (mSeen m) a b c d := rfl
theorem hW_hM (m : mS) (g rd rr nw : cF) (un ig le se a b c d : Int32) : hW m g rd rr nw un ig le se a b c d = hM (g, rd, rr, nw, mBefore m, un, mImages m, ig, le, mText m, se, mSeenOf m, mSeenIs m, mTrace m, a, b, c, d) := rfl
theorem m_town (S : zS) (d : Nat) (hc : List zC) (m : mS) {a : aS} (hA : AWf a) (hR : MRel m a) : ∃ m', Ex S (d + 8) 0 0 107 [.ref 1000] (hc, hM m) (some (.int (spTown a).1)) (hc, hM m') ∧ MRel m' (spTown a).2 := by
  have hQR : QR m (sTx a) (sLen a) := ⟨hA.2.2.1.1, hR.2.2.1.1, hR.2.2.1.2, hA.2.2.1.2⟩
  have hL := hA.2.2.1.1
  obtain ⟨v, rd', rr', sp, be, tk, vl, hx, hpo⟩ := m_readAll S d hc m hQR (mRead m) (mReadRow m) (mSpot m) (mBegins m) (mToken m) (mValue m)
  rw [← hQ_hM] at hx
  unfold spTown
  cases hres : pLop (sTx a) (sLen a) (sLen a + 1) 0 (tB (sTx a) (sLen a) 0) tT0 (fun _ => 0) false with
  | inl f =>
    rw [hres] at hpo
    obtain ⟨g1, g2⟩ := hpo
    refine ⟨(mTold m, rd', rr', mNow m, mBefore m, mUndo m, mImages m, mImaged m, mLength m, mText m, mSeen m, mSeenOf m, mSeenIs m, mTrace m, sp, be, tk, vl), ?_, hR⟩
    rw [hQ_hW] at hx
    rw [← hW_hM]
    (refine exI rfl rfl ?_; intro X hX)
    repeat refine hX _ _ _ _ _ _ _ _ _ _ _ _ _ _ rfl ?_
    refine Or.inl ⟨_, _, hx, ?_⟩
    repeat refine hX _ _ _ _ _ _ _ _ _ _ _ _ _ _ rfl ?_
    refine br_f (show ¬ 0 ≤ v from by rw [g1]; exact Int32.not_le.mpr (q_neg f (by omega))) ?_
    repeat refine hX _ _ _ _ _ _ _ _ _ _ _ _ _ _ rfl ?_
    exact ⟨by rw [g1], rfl⟩
  | inr w =>
    obtain ⟨it, T', ya'⟩ := w
    rw [hres] at hpo
    obtain ⟨g1, g2, g3, g4⟩ := hpo
    obtain ⟨⟨t0, t1, t2, t3, t4, t5⟩, r1, r2⟩ := g4
    have hns := g3.1.2.2.2.1
    have hnp := g3.1.2.2.2.2.1
    have c40 : ∀ i, i < 40 → cpf rd' (mTold m) 40 i = rd' i := fun i hi => by rw [cpf, if_pos hi]
    have c19 : ∀ i, i < 19 → cpf rr' (mNow m) 19 i = rr' i := fun i hi => by rw [cpf, if_pos hi]
    refine ⟨(cpf rd' (mTold m) 40, rd', rr', cpf rr' (mNow m) 19, mBefore m, 0, mImages m, 0, 0, mText m, 0, mSeenOf m, mSeenIs m, mTrace m, sp, be, tk, vl), ?_, ?_⟩
    · rw [hQ_hW] at hx
      rw [← hW_hM]
      (refine exI rfl rfl ?_; intro X hX)
      have loop2 : ∀ (k i : Nat), i + k = 19 → X 39 [some (.ref 1000), some (.int v), some (.int (nI i))] [] (hc, hW m (cpf rd' (mTold m) 40) rd' rr' (cpf rr' (mNow m) i) (mUndo m) (mImaged m) (mLength m) (mSeen m) sp be tk vl) 0 0 := by
        intro k
        induction k with
        | zero =>
          intro i hi
          have : i = 19 := by omega
          subst this
          repeat refine hX _ _ _ _ _ _ _ _ _ _ _ _ _ _ rfl ?_
          refine br_t (show nI 19 ≤ nI 19 by decide) ?_
          iterate 4 (refine hX _ _ _ _ _ _ _ _ _ _ _ _ _ _ rfl ?_)
          rw [setw_le]
          iterate 3 (refine hX _ _ _ _ _ _ _ _ _ _ _ _ _ _ rfl ?_)
          rw [setw_un]
          iterate 3 (refine hX _ _ _ _ _ _ _ _ _ _ _ _ _ _ rfl ?_)
          rw [setw_ig]
          iterate 3 (refine hX _ _ _ _ _ _ _ _ _ _ _ _ _ _ rfl ?_)
          rw [setw_se]
          repeat refine hX _ _ _ _ _ _ _ _ _ _ _ _ _ _ rfl ?_
          exact ⟨by rw [g1], rfl⟩
        | succ k ih =>
          intro i hi
          have h7 := ih (i + 1) (by omega)
          rw [← cpf_s rr' (mNow m) i, ← nI_1] at h7
          repeat refine hX _ _ _ _ _ _ _ _ _ _ _ _ _ _ rfl ?_
          refine br_f (show ¬ nI 19 ≤ nI i from nI_ge (by omega) (by decide)) ?_
          repeat refine hX _ _ _ _ _ _ _ _ _ _ _ _ _ _ rfl ?_
          refine ⟨vp_in_nI (by omega) (by decide), ?_⟩
          rw [nI_clamp (by omega)]
          repeat refine hX _ _ _ _ _ _ _ _ _ _ _ _ _ _ rfl ?_
          refine ⟨vp_in_nI (by omega) (by decide), ?_⟩
          rw [nI_clamp (by omega)]
          rw [setw_nw]
          iterate 2 (refine hX _ _ _ _ _ _ _ _ _ _ _ _ _ _ rfl ?_)
          exact h7
      have loop1 : ∀ (k i : Nat), i + k = 40 → X 13 [some (.ref 1000), some (.int v), some (.int (nI i))] [] (hc, hW m (cpf rd' (mTold m) i) rd' rr' (mNow m) (mUndo m) (mImaged m) (mLength m) (mSeen m) sp be tk vl) 0 0 := by
        intro k
        induction k with
        | zero =>
          intro i hi
          have : i = 40 := by omega
          subst this
          have h7 := loop2 19 0 (by omega)
          rw [cpf_0] at h7
          repeat refine hX _ _ _ _ _ _ _ _ _ _ _ _ _ _ rfl ?_
          refine br_t (show nI 40 ≤ nI 40 by decide) ?_
          iterate 2 (refine hX _ _ _ _ _ _ _ _ _ _ _ _ _ _ rfl ?_)
          exact h7
        | succ k ih =>
          intro i hi
          have h7 := ih (i + 1) (by omega)
          rw [← cpf_s rd' (mTold m) i, ← nI_1] at h7
          repeat refine hX _ _ _ _ _ _ _ _ _ _ _ _ _ _ rfl ?_
          refine br_f (show ¬ nI 40 ≤ nI i from nI_ge (by omega) (by decide)) ?_
          repeat refine hX _ _ _ _ _ _ _ _ _ _ _ _ _ _ rfl ?_
          refine ⟨vp_in_nI (by omega) (by decide), ?_⟩
          rw [nI_clamp (by omega)]
          repeat refine hX _ _ _ _ _ _ _ _ _ _ _ _ _ _ rfl ?_
          refine ⟨vp_in_nI (by omega) (by decide), ?_⟩
          rw [nI_clamp (by omega)]
          rw [setw_g]
          iterate 2 (refine hX _ _ _ _ _ _ _ _ _ _ _ _ _ _ rfl ?_)
          exact h7
      have h7 := loop1 40 0 (by omega)
      rw [cpf_0] at h7
      repeat refine hX _ _ _ _ _ _ _ _ _ _ _ _ _ _ rfl ?_
      refine Or.inl ⟨_, _, hx, ?_⟩
      repeat refine hX _ _ _ _ _ _ _ _ _ _ _ _ _ _ rfl ?_
      refine br_t (show 0 ≤ v from by rw [g1]; exact nI_le (Nat.zero_le _) (by omega)) ?_
      iterate 2 (refine hX _ _ _ _ _ _ _ _ _ _ _ _ _ _ rfl ?_)
      exact h7
    · refine ⟨⟨?_, ?_, ?_, ?_, fun j hj => ?_, fun p hp => ?_⟩, ⟨?_, fun j hj => ?_, fun p hp => ?_⟩, ⟨rfl, fun i hi => absurd hi (Nat.not_lt_zero i)⟩, ⟨rfl, fun i hi => absurd hi (Nat.not_lt_zero i)⟩, ⟨rfl, fun i hi h => absurd (show false = true from h) (by decide)⟩, ⟨rfl, fun i hi => absurd hi (Nat.not_lt_zero i)⟩, hR.2.2.2.2.2.2⟩
      · exact (c40 0 (by decide)).trans t0
      · exact (c40 1 (by decide)).trans t1
      · exact (c40 2 (by decide)).trans t2
      · exact (c40 3 (by decide)).trans t3
      · have hj : j < aNs T' := hj
        exact ⟨(c40 _ (by omega)).trans (t4 j hj).1, (c40 _ (by omega)).trans (t4 j hj).2⟩
      · have hp : p < aNp T' := hp
        exact ⟨(c40 _ (by omega)).trans (t5 p hp).1, (c40 _ (by omega)).trans (t5 p hp).2.1, (c40 _ (by omega)).trans (t5 p hp).2.2.1, (c40 _ (by omega)).trans (t5 p hp).2.2.2⟩
      · exact (c19 (0 + 6) (by decide)).trans (r2 6 (by decide) (by decide))
      · have hj : j < aNs T' := hj
        show cpf rr' (mNow m) 19 (0 + j) = nI (ya' j)
        rw [Nat.zero_add]
        exact (c19 j (by omega)).trans (r1 j hj)
      · have hp : p < aNp T' := hp
        show cpf rr' (mNow m) 19 (0 + 7 + p) = nI (pop 0) ∧ cpf rr' (mNow m) 19 (0 + 13 + p) = nI 0
        rw [show pop 0 = 0 by decide]
        exact ⟨(c19 (0 + 7 + p) (by omega)).trans (r2 (0 + 7 + p) (by omega) (by omega)), (c19 (0 + 13 + p) (by omega)).trans (r2 (0 + 13 + p) (by omega) (by omega))⟩
