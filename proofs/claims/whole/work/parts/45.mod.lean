/-! ===== the reference: what is done, and undone ===== -/
theorem MRow_of {A : aT} (hA : TWf A) {f g : cF} {o o' : Nat} {N : aN} (h : MRow A f o N) (e : ∀ i, i < 19 → g (o' + i) = f (o + i)) : MRow A g o' N := by
  have hns := hA.2.2.2.1
  have hnp := hA.2.2.2.2.1
  refine ⟨?_, fun j hj => ?_, fun p hp => ⟨?_, ?_⟩⟩
  · rw [e 6 (by decide)]; exact h.1
  · rw [e j (by omega)]; exact h.2.1 j hj
  · rw [Nat.add_assoc, e (7 + p) (by omega), ← Nat.add_assoc]; exact (h.2.2 p hp).1
  · rw [Nat.add_assoc, e (13 + p) (by omega), ← Nat.add_assoc]; exact (h.2.2 p hp).2
def cpo (dst src : cF) (o n : Nat) : cF := fun j => if o ≤ j ∧ j < o + n then src (j - o) else dst j
theorem cpo_0 (dst src : cF) (o : Nat) : cpo dst src o 0 = dst := by
  funext j
  unfold cpo
  rw [if_neg (by omega)]
theorem cpo_s (dst src : cF) (o n : Nat) : upd (cpo dst src o n) (o + n) (src n) = cpo dst src o (n + 1) := by
  funext j
  unfold upd cpo
  by_cases h : j = o + n
  · subst h
    rw [if_pos rfl, if_pos (by omega), show o + n - o = n by omega]
  · rw [if_neg h]
    by_cases h2 : o ≤ j ∧ j < o + n
    · rw [if_pos h2, if_pos (by omega)]
    · rw [if_neg h2, if_neg (by omega)]
def shB (f : cF) (n : Nat) : cF := fun j => if j < n then f (19 + j) else f j
theorem shB_0 (f : cF) : shB f 0 = f := by funext i; simp [shB]
theorem shB_s (f : cF) (n : Nat) : upd (shB f n) n (shB f n (19 + n)) = shB f (n + 1) := by
  funext i
  unfold upd
  by_cases h : i = n
  · subst h
    rw [if_pos rfl]
    unfold shB
    rw [if_neg (by omega), if_pos (by omega)]
  · rw [if_neg h]
    unfold shB
    by_cases h2 : i < n
    · rw [if_pos h2, if_pos (by omega)]
    · rw [if_neg h2, if_neg (by omega)]
def nB (bf nw : cF) (k : Nat) : cF := if k = 10 then cpo (shB bf 171) nw (19 * 9) 19 else cpo bf nw (19 * k) 19
theorem i19 (n i : Nat) : (19 : Int32) * nI n + nI i = nI (19 * n + i) := by rw [show (19 : Int32) = nI 19 from rfl, pk_mul, nI_add]
theorem m_note (S : zS) (d : Nat) (hc : List zC) (m : mS) {k : Nat} (hk : mUndo m = nI k) (h10 : k ≤ 10) : Ex S (d + 1) 0 0 122 [.ref 1000] (hc, hM m) none (hc, hM (s_mUndo (s_mBefore m (nB (mBefore m) (mNow m) k)) (nI (hPk k)))) := by
  (refine exI rfl rfl ?_; intro X hX)
  have loop2 : ∀ (bf : cF) (n : Nat), n ≤ 9 → nB (mBefore m) (mNow m) k = cpo bf (mNow m) (19 * n) 19 → hPk k = n + 1 → ∀ (q i : Nat), i + q = 19 → X 51 [some (.ref 1000), some (.int (nI i))] [] (hc, hM (s_mUndo (s_mBefore m (cpo bf (mNow m) (19 * n) i)) (nI n))) 0 0 := by
    intro bf n hn e1 e2 q
    induction q with
    | zero =>
      intro i hi
      have : i = 19 := by omega
      subst this
      repeat refine hX _ _ _ _ _ _ _ _ _ _ _ _ _ _ rfl ?_
      refine br_t (show nI 19 ≤ nI 19 from nI_le (by omega) (by decide)) ?_
      repeat refine hX _ _ _ _ _ _ _ _ _ _ _ _ _ _ rfl ?_
      rw [nI_1, e1, e2]
      exact ⟨rfl, rfl⟩
    | succ q ih =>
      intro i hi
      repeat refine hX _ _ _ _ _ _ _ _ _ _ _ _ _ _ rfl ?_
      refine br_f (show ¬ nI 19 ≤ nI i from nI_ge (by omega) (by decide)) ?_
      repeat refine hX _ _ _ _ _ _ _ _ _ _ _ _ _ _ rfl ?_
      refine ⟨vp_in_nI (by omega) (by decide), ?_⟩
      rw [nI_clamp (by omega)]
      repeat refine hX _ _ _ _ _ _ _ _ _ _ _ _ _ _ rfl ?_
      rw [i19]
      refine ⟨vp_in_nI (by omega) (by decide), ?_⟩
      rw [nI_clamp (by omega)]
      iterate 2 (refine hX _ _ _ _ _ _ _ _ _ _ _ _ _ _ rfl ?_)
      rw [nI_1]
      have h7 := ih (i + 1) (by omega)
      rw [← cpo_s] at h7
      exact h7
  have loop1 : ∀ (q i : Nat), k = 10 → i + q = 171 → X 11 [some (.ref 1000), some (.int (nI i))] [] (hc, hM (s_mBefore m (shB (mBefore m) i))) 0 0 := by
    intro q
    induction q with
    | zero =>
      intro i hk10 hi
      have : i = 171 := by omega
      subst this
      repeat refine hX _ _ _ _ _ _ _ _ _ _ _ _ _ _ rfl ?_
      refine br_t (show nI 171 ≤ nI 171 from nI_le (by omega) (by decide)) ?_
      iterate 6 (refine hX _ _ _ _ _ _ _ _ _ _ _ _ _ _ rfl ?_)
      rw [hk, hk10, show nI 10 - 1 = nI 9 from rfl]
      iterate 2 (refine hX _ _ _ _ _ _ _ _ _ _ _ _ _ _ rfl ?_)
      have h8 := loop2 (shB (mBefore m) 171) 9 (by omega) (by unfold nB; rw [if_pos hk10]) (by unfold hPk; rw [if_pos hk10]) 19 0 (by omega)
      rw [cpo_0] at h8
      exact h8
    | succ q ih =>
      intro i hk10 hi
      repeat refine hX _ _ _ _ _ _ _ _ _ _ _ _ _ _ rfl ?_
      refine br_f (show ¬ nI 171 ≤ nI i from nI_ge (by omega) (by decide)) ?_
      repeat refine hX _ _ _ _ _ _ _ _ _ _ _ _ _ _ rfl ?_
      rw [show (19 : Int32) + nI i = nI (19 + i) from nI_add 19 i]
      refine ⟨vp_in_nI (by omega) (by decide), ?_⟩
      rw [nI_clamp (by omega)]
      repeat refine hX _ _ _ _ _ _ _ _ _ _ _ _ _ _ rfl ?_
      refine ⟨vp_in_nI (by omega) (by decide), ?_⟩
      rw [nI_clamp (by omega)]
      iterate 2 (refine hX _ _ _ _ _ _ _ _ _ _ _ _ _ _ rfl ?_)
      rw [nI_1]
      have h7 := ih (i + 1) hk10 (by omega)
      rw [← shB_s] at h7
      exact h7
  repeat refine hX _ _ _ _ _ _ _ _ _ _ _ _ _ _ rfl ?_
  rw [hk]
  by_cases hk10 : k = 10
  · refine br_f (show ¬ ¬ nI k = nI 10 from fun h => h (congrArg nI hk10)) ?_
    iterate 2 (refine hX _ _ _ _ _ _ _ _ _ _ _ _ _ _ rfl ?_)
    have h8 := loop1 171 0 hk10 (by omega)
    rw [shB_0] at h8
    exact h8
  · refine br_t (show ¬ nI k = nI 10 from fun h => hk10 ((nI_eq (by omega) (by decide)).mp h)) ?_
    iterate 2 (refine hX _ _ _ _ _ _ _ _ _ _ _ _ _ _ rfl ?_)
    have h8 := loop2 (mBefore m) k (by omega) (by unfold nB; rw [if_neg hk10]) (by unfold hPk; rw [if_neg hk10]) 19 0 (by omega)
    rw [cpo_0, ← hk] at h8
    exact h8
theorem note_rel {A : aT} (hA : TWf A) {bf nw : cF} {k : Nat} (h10 : k ≤ 10) {H : Nat → aN} {N : aN} (hN : MRow A nw 0 N) (hH : ∀ j, j < k → MRow A bf (19 * j) (H j)) : ∀ j, j < hPk k → MRow A (nB bf nw k) (19 * j) (hPH k H N j) := by
  intro j hj
  unfold hPk at hj
  unfold nB hPH
  by_cases hk : k = 10
  · rw [if_pos hk] at hj ⊢
    rw [if_pos hk]
    by_cases hj9 : j < 9
    · simp only [hj9, if_true]
      refine MRow_of hA (hH (j + 1) (by omega)) (fun i hi => ?_)
      unfold cpo
      rw [if_neg (by omega)]
      unfold shB
      rw [if_pos (by omega)]
      exact congrArg bf (by omega)
    · simp only [hj9, if_false]
      refine MRow_of hA hN (fun i hi => ?_)
      unfold cpo
      rw [if_pos (by omega)]
      exact congrArg nw (by omega)
  · rw [if_neg hk] at hj ⊢
    rw [if_neg hk]
    by_cases hjk : j = k
    · subst hjk
      rw [aup_s]
      refine MRow_of hA hN (fun i hi => ?_)
      unfold cpo
      rw [if_pos (by omega)]
      exact congrArg nw (by omega)
    · rw [aup_n _ _ hjk]
      refine MRow_of hA (hH j (by omega)) (fun i hi => ?_)
      unfold cpo
      rw [if_neg (by omega)]
theorem m_comes (S : zS) (d : Nat) (hc : List zC) (m : mS) {a : aS} (hA : AWf a) (hR : MRel m a) (x : Int32) : ∃ m', Ex S (d + 3) 0 0 123 [.ref 1000, .int x] (hc, hM m) (some (.int (spComes a x).1)) (hc, hM m') ∧ MRel m' (spComes a x).2 := by
  have hnp := hA.1.2.2.2.2.1
  have hns := hA.1.2.2.2.1
  have hst := m_isOne S d hc m hA.1 hR.1 x
  have hco := nCo_lt hA.1 hA.2.1
  obtain ⟨hk10, -⟩ := hA.2.2.2.1
  obtain ⟨hkn, hH⟩ := hR.2.2.2.1
  have hN := MRow_0 hR.2.1
  unfold spComes
  cases hin : inb x (aNp (sT a)) with
  | false =>
    rw [hin] at hst
    refine ⟨m, ?_, hR⟩
    (refine exI rfl rfl ?_; intro X hX)
    repeat refine hX _ _ _ _ _ _ _ _ _ _ _ _ _ _ rfl ?_
    refine Or.inl ⟨_, _, hst, ?_⟩
    repeat refine hX _ _ _ _ _ _ _ _ _ _ _ _ _ _ rfl ?_
    refine br_f (show ¬ ¬ b2i false = 0 by decide) ?_
    repeat refine hX _ _ _ _ _ _ _ _ _ _ _ _ _ _ rfl ?_
    exact ⟨rfl, rfl⟩
  | true =>
    rw [hin] at hst
    obtain ⟨j, hj, rfl⟩ := inb_of hin (by omega)
    simp only [cond_true, nI_clamp (show j < 2 ^ 31 by omega)]
    have hhas := fun h => m_hasX S (d + 1) h hco (show j < 6 by omega)
    cases hb : (nCo (sN a)).testBit j with
    | true =>
      rw [hb] at hhas
      refine ⟨m, ?_, hR⟩
      (refine exI rfl rfl ?_; intro X hX)
      repeat refine hX _ _ _ _ _ _ _ _ _ _ _ _ _ _ rfl ?_
      refine Or.inl ⟨_, _, hst, ?_⟩
      repeat refine hX _ _ _ _ _ _ _ _ _ _ _ _ _ _ rfl ?_
      refine br_t (show ¬ b2i true = 0 by decide) ?_
      repeat refine hX _ _ _ _ _ _ _ _ _ _ _ _ _ _ rfl ?_
      refine ⟨by unfold vp_in; decide, ?_⟩
      rw [show (6 : Int32).toNatClampNeg = 6 from rfl]
      rw [hN.1]
      repeat refine hX _ _ _ _ _ _ _ _ _ _ _ _ _ _ rfl ?_
      refine Or.inl ⟨_, _, hhas _, ?_⟩
      repeat refine hX _ _ _ _ _ _ _ _ _ _ _ _ _ _ rfl ?_
      refine br_f (show ¬ b2i true = 0 by decide) ?_
      repeat refine hX _ _ _ _ _ _ _ _ _ _ _ _ _ _ rfl ?_
      exact ⟨rfl, rfl⟩
    | false =>
      rw [hb] at hhas
      have hor : nI (nCo (sN a)) ||| (1 <<< (nI j &&& 31)) = nI (nCo (sN a) ||| 2 ^ j) := by rw [q_shl j (by omega), nI_or]
      have hl2 := q_or_lt _ hco _ (q_p64 j (by omega))
      have hno := m_note S (d + 1) hc m hkn hk10
      have hbc := fun h => m_ones S (d + 1) h hl2
      refine ⟨s_mNow (s_mUndo (s_mBefore m (nB (mBefore m) (mNow m) (sK a))) (nI (hPk (sK a)))) (upd (mNow m) 6 (nI (nCo (sN a) ||| 2 ^ j))), ?_, ⟨hR.1, ?_, hR.2.2.1, ⟨rfl, note_rel hA.1 hk10 hR.2.1 hH⟩, hR.2.2.2.2.1, hR.2.2.2.2.2.1, hR.2.2.2.2.2.2⟩⟩
      rotate_left
      · refine ⟨(show upd (mNow m) 6 _ 6 = _ from pk_us), fun i hi => ?_, fun p hp => ⟨?_, ?_⟩⟩
        · show upd (mNow m) 6 _ (0 + i) = _
          have hi : i < aNs (sT a) := hi
          rw [Nat.zero_add, pk_un (by omega)]; exact hN.2.1 i hi
        · show upd (mNow m) 6 _ (0 + 7 + p) = _
          rw [pk_un (by omega)]; exact (hR.2.1.2.2 p hp).1
        · show upd (mNow m) 6 _ (0 + 13 + p) = _
          rw [pk_un (by omega)]; exact (hR.2.1.2.2 p hp).2
      · (refine exI rfl rfl ?_; intro X hX)
        repeat refine hX _ _ _ _ _ _ _ _ _ _ _ _ _ _ rfl ?_
        refine Or.inl ⟨_, _, hst, ?_⟩
        repeat refine hX _ _ _ _ _ _ _ _ _ _ _ _ _ _ rfl ?_
        refine br_t (show ¬ b2i true = 0 by decide) ?_
        repeat refine hX _ _ _ _ _ _ _ _ _ _ _ _ _ _ rfl ?_
        refine ⟨by unfold vp_in; decide, ?_⟩
        rw [show (6 : Int32).toNatClampNeg = 6 from rfl]
        rw [hN.1]
        repeat refine hX _ _ _ _ _ _ _ _ _ _ _ _ _ _ rfl ?_
        refine Or.inl ⟨_, _, hhas _, ?_⟩
        repeat refine hX _ _ _ _ _ _ _ _ _ _ _ _ _ _ rfl ?_
        refine br_t (show b2i false = 0 from rfl) ?_
        repeat refine hX _ _ _ _ _ _ _ _ _ _ _ _ _ _ rfl ?_
        refine Or.inl ⟨_, _, hno, ?_⟩
        repeat refine hX _ _ _ _ _ _ _ _ _ _ _ _ _ _ rfl ?_
        refine ⟨by unfold vp_in; decide, ?_⟩
        rw [show (6 : Int32).toNatClampNeg = 6 from rfl]
        rw [hN.1]
        repeat refine hX _ _ _ _ _ _ _ _ _ _ _ _ _ _ rfl ?_
        rw [hor]
        refine ⟨by unfold vp_in; decide, ?_⟩
        rw [show (6 : Int32).toNatClampNeg = 6 from rfl]
        repeat refine hX _ _ _ _ _ _ _ _ _ _ _ _ _ _ rfl ?_
        refine ⟨by unfold vp_in; decide, ?_⟩
        rw [show (6 : Int32).toNatClampNeg = 6 from rfl]
        rw [pk_us]
        repeat refine hX _ _ _ _ _ _ _ _ _ _ _ _ _ _ rfl ?_
        refine Or.inl ⟨_, _, hbc _, ?_⟩
        repeat refine hX _ _ _ _ _ _ _ _ _ _ _ _ _ _ rfl ?_
        exact ⟨rfl, rfl⟩
theorem m_goes (S : zS) (d : Nat) (hc : List zC) (m : mS) {a : aS} (hA : AWf a) (hR : MRel m a) (x : Int32) : ∃ m', Ex S (d + 3) 0 0 124 [.ref 1000, .int x] (hc, hM m) (some (.int (spGoes a x).1)) (hc, hM m') ∧ MRel m' (spGoes a x).2 := by
  have hnp := hA.1.2.2.2.2.1
  have hns := hA.1.2.2.2.1
  have hst := m_isOne S d hc m hA.1 hR.1 x
  have hco := nCo_lt hA.1 hA.2.1
  obtain ⟨hk10, -⟩ := hA.2.2.2.1
  obtain ⟨hkn, hH⟩ := hR.2.2.2.1
  have hN := MRow_0 hR.2.1
  unfold spGoes
  cases hin : inb x (aNp (sT a)) with
  | false =>
    rw [hin] at hst
    refine ⟨m, ?_, hR⟩
    (refine exI rfl rfl ?_; intro X hX)
    repeat refine hX _ _ _ _ _ _ _ _ _ _ _ _ _ _ rfl ?_
    refine Or.inl ⟨_, _, hst, ?_⟩
    repeat refine hX _ _ _ _ _ _ _ _ _ _ _ _ _ _ rfl ?_
    refine br_f (show ¬ ¬ b2i false = 0 by decide) ?_
    repeat refine hX _ _ _ _ _ _ _ _ _ _ _ _ _ _ rfl ?_
    exact ⟨rfl, rfl⟩
  | true =>
    rw [hin] at hst
    obtain ⟨j, hj, rfl⟩ := inb_of hin (by omega)
    simp only [cond_true, nI_clamp (show j < 2 ^ 31 by omega)]
    have hhas := fun h => m_hasX S (d + 1) h hco (show j < 6 by omega)
    cases hb : (nCo (sN a)).testBit j with
    | false =>
      rw [hb] at hhas
      refine ⟨m, ?_, hR⟩
      (refine exI rfl rfl ?_; intro X hX)
      repeat refine hX _ _ _ _ _ _ _ _ _ _ _ _ _ _ rfl ?_
      refine Or.inl ⟨_, _, hst, ?_⟩
      repeat refine hX _ _ _ _ _ _ _ _ _ _ _ _ _ _ rfl ?_
      refine br_t (show ¬ b2i true = 0 by decide) ?_
      repeat refine hX _ _ _ _ _ _ _ _ _ _ _ _ _ _ rfl ?_
      refine ⟨by unfold vp_in; decide, ?_⟩
      rw [show (6 : Int32).toNatClampNeg = 6 from rfl]
      rw [hN.1]
      repeat refine hX _ _ _ _ _ _ _ _ _ _ _ _ _ _ rfl ?_
      refine Or.inl ⟨_, _, hhas _, ?_⟩
      repeat refine hX _ _ _ _ _ _ _ _ _ _ _ _ _ _ rfl ?_
      refine br_f (show ¬ ¬ b2i false = 0 by decide) ?_
      repeat refine hX _ _ _ _ _ _ _ _ _ _ _ _ _ _ rfl ?_
      exact ⟨rfl, rfl⟩
    | true =>
      rw [hb] at hhas
      have hor : nI (nCo (sN a)) &&& ((1 <<< (nI j &&& 31)) ^^^ (-1)) = nI (nCo (sN a) &&& (63 ^^^ 2 ^ j)) := by rw [q_shl j (by omega), q_andn _ hco _ (q_p64 j (by omega))]
      have hl2 : nCo (sN a) &&& (63 ^^^ 2 ^ j) < 64 := q_and_lt hco
      have hno := m_note S (d + 1) hc m hkn hk10
      have hbc := fun h => m_ones S (d + 1) h hl2
      refine ⟨s_mNow (s_mUndo (s_mBefore m (nB (mBefore m) (mNow m) (sK a))) (nI (hPk (sK a)))) (upd (mNow m) 6 (nI (nCo (sN a) &&& (63 ^^^ 2 ^ j)))), ?_, ⟨hR.1, ?_, hR.2.2.1, ⟨rfl, note_rel hA.1 hk10 hR.2.1 hH⟩, hR.2.2.2.2.1, hR.2.2.2.2.2.1, hR.2.2.2.2.2.2⟩⟩
      rotate_left
      · refine ⟨(show upd (mNow m) 6 _ 6 = _ from pk_us), fun i hi => ?_, fun p hp => ⟨?_, ?_⟩⟩
        · show upd (mNow m) 6 _ (0 + i) = _
          have hi : i < aNs (sT a) := hi
          rw [Nat.zero_add, pk_un (by omega)]; exact hN.2.1 i hi
        · show upd (mNow m) 6 _ (0 + 7 + p) = _
          rw [pk_un (by omega)]; exact (hR.2.1.2.2 p hp).1
        · show upd (mNow m) 6 _ (0 + 13 + p) = _
          rw [pk_un (by omega)]; exact (hR.2.1.2.2 p hp).2
      · (refine exI rfl rfl ?_; intro X hX)
        repeat refine hX _ _ _ _ _ _ _ _ _ _ _ _ _ _ rfl ?_
        refine Or.inl ⟨_, _, hst, ?_⟩
        repeat refine hX _ _ _ _ _ _ _ _ _ _ _ _ _ _ rfl ?_
        refine br_t (show ¬ b2i true = 0 by decide) ?_
        repeat refine hX _ _ _ _ _ _ _ _ _ _ _ _ _ _ rfl ?_
        refine ⟨by unfold vp_in; decide, ?_⟩
        rw [show (6 : Int32).toNatClampNeg = 6 from rfl]
        rw [hN.1]
        repeat refine hX _ _ _ _ _ _ _ _ _ _ _ _ _ _ rfl ?_
        refine Or.inl ⟨_, _, hhas _, ?_⟩
        repeat refine hX _ _ _ _ _ _ _ _ _ _ _ _ _ _ rfl ?_
        refine br_t (show ¬ b2i true = 0 by decide) ?_
        repeat refine hX _ _ _ _ _ _ _ _ _ _ _ _ _ _ rfl ?_
        refine Or.inl ⟨_, _, hno, ?_⟩
        repeat refine hX _ _ _ _ _ _ _ _ _ _ _ _ _ _ rfl ?_
        refine ⟨by unfold vp_in; decide, ?_⟩
        rw [show (6 : Int32).toNatClampNeg = 6 from rfl]
        rw [hN.1]
        repeat refine hX _ _ _ _ _ _ _ _ _ _ _ _ _ _ rfl ?_
        rw [hor]
        refine ⟨by unfold vp_in; decide, ?_⟩
        rw [show (6 : Int32).toNatClampNeg = 6 from rfl]
        repeat refine hX _ _ _ _ _ _ _ _ _ _ _ _ _ _ rfl ?_
        refine ⟨by unfold vp_in; decide, ?_⟩
        rw [show (6 : Int32).toNatClampNeg = 6 from rfl]
        rw [pk_us]
        repeat refine hX _ _ _ _ _ _ _ _ _ _ _ _ _ _ rfl ?_
        refine Or.inl ⟨_, _, hbc _, ?_⟩
        repeat refine hX _ _ _ _ _ _ _ _ _ _ _ _ _ _ rfl ?_
        exact ⟨rfl, rfl⟩
