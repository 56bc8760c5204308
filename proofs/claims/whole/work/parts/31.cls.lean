/-! ===== the class: text, what was seen ===== -/
def aup {α : Type} (f : Nat → α) (k : Nat) (v : α) : Nat → α := fun j => if j = k then v else f j
theorem aup_s {α : Type} (f : Nat → α) (k : Nat) (v : α) : aup f k v k = v := by simp [aup]
theorem aup_n {α : Type} (f : Nat → α) {k j : Nat} (v : α) (h : j ≠ k) : aup f k v j = f j := by simp [aup, h]
theorem inb_no {x : Int32} {n : Nat} (h : inb x n = false) : x < 0 ∨ (¬ x < 0 ∧ nI n ≤ x) := by
  unfold inb at h
  by_cases h0 : x < 0
  · exact Or.inl h0
  · right
    refine ⟨h0, ?_⟩
    simp only [h0, decide_false, Bool.not_false, Bool.true_and, decide_eq_false_iff_not] at h
    exact Int32.not_lt.mp h
theorem le_no {x : Int32} {n : Nat} (hn : n + 1 < 2 ^ 31) (h : nI (n + 1) ≤ x) : ¬ x ≤ nI n := fun h2 => by
  have := Int32.le_trans h h2
  exact nI_ge (show n < n + 1 by omega) hn this
abbrev uText (a : aS) (n : Nat) (tx : aF) : aS := mkA (sT a) (sN a) n tx (sK a) (sH a) (sKe a) (sIm a) (sQ a) (sOf a) (sIs a) (sTr a)
abbrev uSeen (a : aS) (q : Nat) (o i : aF) : aS := mkA (sT a) (sN a) (sLen a) (sTx a) (sK a) (sH a) (sKe a) (sIm a) q o i (sTr a)
abbrev uTr (a : aS) (t : Int64) : aS := mkA (sT a) (sN a) (sLen a) (sTx a) (sK a) (sH a) (sKe a) (sIm a) (sQ a) (sOf a) (sIs a) t
abbrev uNow (a : aS) (N : aN) (k : Nat) (H : Nat → aN) : aS := mkA (sT a) N (sLen a) (sTx a) k H (sKe a) (sIm a) (sQ a) (sOf a) (sIs a) (sTr a)
abbrev uImg (a : aS) (ke : Nat → Bool) (im : Nat → aN) : aS := mkA (sT a) (sN a) (sLen a) (sTx a) (sK a) (sH a) ke im (sQ a) (sOf a) (sIs a) (sTr a)
def spType (a : aS) (x : Int32) : Int32 × aS := bif inb x 256 then (if sLen a = 150 then (-3, a) else (nI (sLen a + 1), uText a (sLen a + 1) (aup (sTx a) (sLen a) x.toNatClampNeg))) else (-1, a)
theorem c_addLetter (S : zS) (d : Nat) (sw : Bool) (c : cS) (hm : List zC) {n : Nat} (hn : rLetters (cRd c) = nI n) (h : n < 150) (x : Int32) : Ex S (d + 1) 0 0 7 [.ref 1, .int x] (hC sw c, hm) none (hC sw (s_cRd c (s_rLetters (s_rText (cRd c) (upd (rText (cRd c)) n x)) (nI (n + 1)))), hm) := by
  cases sw
  case false =>
    (refine exI rfl rfl ?_; intro X hX)
    repeat refine hX _ _ _ _ _ _ _ _ _ _ _ _ _ _ rfl ?_
    rw [hn]
    refine br_f (show ¬ nI 150 ≤ nI n from nI_ge h (by omega)) ?_
    repeat refine hX _ _ _ _ _ _ _ _ _ _ _ _ _ _ rfl ?_
    rw [hn]
    refine ⟨vp_in_nI (by omega) (by decide), ?_⟩
    rw [nI_clamp (by omega)]
    repeat refine hX _ _ _ _ _ _ _ _ _ _ _ _ _ _ rfl ?_
    refine ⟨rfl, ?_⟩
    rw [← nI_1, ← hn]
    rfl
  case true =>
    (refine exI rfl rfl ?_; intro X hX)
    repeat refine hX _ _ _ _ _ _ _ _ _ _ _ _ _ _ rfl ?_
    rw [hn]
    refine br_f (show ¬ nI 150 ≤ nI n from nI_ge h (by omega)) ?_
    repeat refine hX _ _ _ _ _ _ _ _ _ _ _ _ _ _ rfl ?_
    rw [hn]
    refine ⟨vp_in_nI (by omega) (by decide), ?_⟩
    rw [nI_clamp (by omega)]
    repeat refine hX _ _ _ _ _ _ _ _ _ _ _ _ _ _ rfl ?_
    refine ⟨rfl, ?_⟩
    rw [← nI_1, ← hn]
    rfl
theorem c_type (S : zS) (d : Nat) (sw : Bool) (c : cS) (hm : List zC) {a : aS} (hA : AWf a) (hR : CRel c a) (x : Int32) : ∃ c', Ex S (d + 2) 0 0 37 [.ref 0, .int x] (hC sw c, hm) (some (.int (spType a x).1)) (hC sw c', hm) ∧ CRel c' (spType a x).2 := by
  obtain ⟨hle, htx⟩ := hA.2.2.1
  obtain ⟨hlt, htt⟩ := hR.2.2.1
  unfold spType
  cases hin : inb x 256 with
  | false =>
    refine ⟨c, ?_, hR⟩
    have hno := inb_no hin
    cases sw
    all_goals
      (refine exI rfl rfl ?_; intro X hX)
      repeat refine hX _ _ _ _ _ _ _ _ _ _ _ _ _ _ rfl ?_
      rcases hno with h0 | ⟨h0, h1⟩
      · refine br_t (show x < 0 from h0) ?_
        repeat refine hX _ _ _ _ _ _ _ _ _ _ _ _ _ _ rfl ?_
        exact ⟨rfl, rfl⟩
      · refine br_f (show ¬ x < 0 from h0) ?_
        repeat refine hX _ _ _ _ _ _ _ _ _ _ _ _ _ _ rfl ?_
        refine br_f (show ¬ x ≤ nI 255 from le_no (by decide) h1) ?_
        repeat refine hX _ _ _ _ _ _ _ _ _ _ _ _ _ _ rfl ?_
        exact ⟨rfl, rfl⟩
  | true =>
    obtain ⟨j, hj, rfl⟩ := inb_of hin (by decide)
    simp only [cond_true, nI_clamp (show j < 2 ^ 31 by omega)]
    by_cases h150 : sLen a = 150
    · rw [if_pos h150]
      refine ⟨c, ?_, hR⟩
      cases sw
      all_goals
        (refine exI rfl rfl ?_; intro X hX)
        repeat refine hX _ _ _ _ _ _ _ _ _ _ _ _ _ _ rfl ?_
        refine br_f (show ¬ nI j < 0 from nI_pos (by omega)) ?_
        repeat refine hX _ _ _ _ _ _ _ _ _ _ _ _ _ _ rfl ?_
        refine br_t (show nI j ≤ nI 255 from nI_le (by omega) (by decide)) ?_
        repeat refine hX _ _ _ _ _ _ _ _ _ _ _ _ _ _ rfl ?_
        rw [hlt]
        refine br_f (show ¬ nI (sLen a) < nI 150 from nI_nlt (by omega) (by omega)) ?_
        repeat refine hX _ _ _ _ _ _ _ _ _ _ _ _ _ _ rfl ?_
        exact ⟨rfl, rfl⟩
    · rw [if_neg h150]
      have hadd := c_addLetter S d sw c hm hlt (by omega) (nI j)
      refine ⟨s_cRd c (s_rLetters (s_rText (cRd c) (upd (rText (cRd c)) (sLen a) (nI j))) (nI (sLen a + 1))), ?_, ?_⟩
      rotate_left
      · refine ⟨hR.1, hR.2.1, ⟨rfl, fun i hi => ?_⟩, hR.2.2.2.1, hR.2.2.2.2.1, hR.2.2.2.2.2.1, hR.2.2.2.2.2.2.1, hR.2.2.2.2.2.2.2.1, hR.2.2.2.2.2.2.2.2⟩
        show upd (rText (cRd c)) (sLen a) (nI j) i = nI (aup (sTx a) (sLen a) j i)
        by_cases hi2 : i = sLen a
        · rw [hi2, pk_us, aup_s]
        · have hi3 : i < sLen a + 1 := hi
          rw [pk_un hi2, aup_n _ _ hi2, htt i (by omega)]
      · cases sw
        all_goals
          (refine exI rfl rfl ?_; intro X hX)
          repeat refine hX _ _ _ _ _ _ _ _ _ _ _ _ _ _ rfl ?_
          refine br_f (show ¬ nI j < 0 from nI_pos (by omega)) ?_
          repeat refine hX _ _ _ _ _ _ _ _ _ _ _ _ _ _ rfl ?_
          refine br_t (show nI j ≤ nI 255 from nI_le (by omega) (by decide)) ?_
          repeat refine hX _ _ _ _ _ _ _ _ _ _ _ _ _ _ rfl ?_
          rw [hlt]
          refine br_t (show nI (sLen a) < nI 150 from nI_lt (by omega) (by decide)) ?_
          repeat refine hX _ _ _ _ _ _ _ _ _ _ _ _ _ _ rfl ?_
          refine Or.inl ⟨_, _, hadd, ?_⟩
          repeat refine hX _ _ _ _ _ _ _ _ _ _ _ _ _ _ rfl ?_
          exact ⟨rfl, rfl⟩
def spClear (a : aS) : Int32 × aS := (nI (sLen a), uText a 0 (sTx a))
theorem c_clear (S : zS) (d : Nat) (sw : Bool) (c : cS) (hm : List zC) {a : aS} (hR : CRel c a) : ∃ c', Ex S (d + 1) 0 0 38 [.ref 0] (hC sw c, hm) (some (.int (spClear a).1)) (hC sw c', hm) ∧ CRel c' (spClear a).2 := by
  obtain ⟨hlt, htt⟩ := hR.2.2.1
  refine ⟨s_cRd c (s_rLetters (cRd c) 0), ?_, ⟨hR.1, hR.2.1, ⟨rfl, fun i hi => absurd hi (Nat.not_lt_zero i)⟩, hR.2.2.2.1, hR.2.2.2.2.1, hR.2.2.2.2.2.1, hR.2.2.2.2.2.2.1, hR.2.2.2.2.2.2.2.1, hR.2.2.2.2.2.2.2.2⟩⟩
  cases sw
  all_goals
    (refine exI rfl rfl ?_; intro X hX)
    repeat refine hX _ _ _ _ _ _ _ _ _ _ _ _ _ _ rfl ?_
    rw [hlt]
    exact ⟨rfl, rfl⟩
def spForget (a : aS) : Int32 × aS := (nI (sQ a), uSeen a 0 (sOf a) (sIs a))
theorem c_forget (S : zS) (d : Nat) (sw : Bool) (c : cS) (hm : List zC) {a : aS} (hR : CRel c a) : ∃ c', Ex S (d + 1) 0 0 55 [.ref 0] (hC sw c, hm) (some (.int (spForget a).1)) (hC sw c', hm) ∧ CRel c' (spForget a).2 := by
  obtain ⟨hq, -⟩ := hR.2.2.2.2.2.2.2.1
  refine ⟨s_cSeen c 0, ?_, ⟨hR.1, hR.2.1, hR.2.2.1, hR.2.2.2.1, hR.2.2.2.2.1, hR.2.2.2.2.2.1, hR.2.2.2.2.2.2.1, ⟨rfl, fun i hi => absurd hi (Nat.not_lt_zero i)⟩, hR.2.2.2.2.2.2.2.2⟩⟩
  cases sw
  all_goals
    (refine exI rfl rfl ?_; intro X hX)
    repeat refine hX _ _ _ _ _ _ _ _ _ _ _ _ _ _ rfl ?_
    rw [hq]
    exact ⟨rfl, rfl⟩
def spSees (a : aS) (s w : Int32) : Int32 × aS := bif inb s (aNs (sT a)) && inb w 2 then (if sQ a = 6 then (-3, a) else (nI (sQ a + 1), uSeen a (sQ a + 1) (aup (sOf a) (sQ a) s.toNatClampNeg) (aup (sIs a) (sQ a) w.toNatClampNeg))) else (-1, a)
theorem c_sees (S : zS) (d : Nat) (sw : Bool) (c : cS) (hm : List zC) {a : aS} (hA : AWf a) (hR : CRel c a) (s w : Int32) : ∃ c', Ex S (d + 2) 0 0 54 [.ref 0, .int s, .int w] (hC sw c, hm) (some (.int (spSees a s w).1)) (hC sw c', hm) ∧ CRel c' (spSees a s w).2 := by
  have hns := hA.1.2.2.2.1
  obtain ⟨hq6, hqq⟩ := hA.2.2.2.2.2
  obtain ⟨hq, hsq⟩ := hR.2.2.2.2.2.2.2.1
  have hst := c_hasStatue S d sw c hm hR.1.2.2.1 s
  unfold spSees
  cases hin : inb s (aNs (sT a)) with
  | false =>
    rw [hin] at hst
    refine ⟨c, ?_, hR⟩
    cases sw
    all_goals
      (refine exI rfl rfl ?_; intro X hX)
      repeat refine hX _ _ _ _ _ _ _ _ _ _ _ _ _ _ rfl ?_
      refine Or.inl ⟨_, _, hst, ?_⟩
      repeat refine hX _ _ _ _ _ _ _ _ _ _ _ _ _ _ rfl ?_
      refine br_t (show b2i false = 0 from rfl) ?_
      repeat refine hX _ _ _ _ _ _ _ _ _ _ _ _ _ _ rfl ?_
      exact ⟨rfl, rfl⟩
  | true =>
    rw [hin] at hst
    obtain ⟨j, hj, rfl⟩ := inb_of hin (by omega)
    cases hiw : inb w 2 with
    | false =>
      refine ⟨c, ?_, hR⟩
      have hno := inb_no hiw
      cases sw
      all_goals
        (refine exI rfl rfl ?_; intro X hX)
        repeat refine hX _ _ _ _ _ _ _ _ _ _ _ _ _ _ rfl ?_
        refine Or.inl ⟨_, _, hst, ?_⟩
        repeat refine hX _ _ _ _ _ _ _ _ _ _ _ _ _ _ rfl ?_
        refine br_f (show ¬ b2i true = 0 by decide) ?_
        repeat refine hX _ _ _ _ _ _ _ _ _ _ _ _ _ _ rfl ?_
        rcases hno with h0 | ⟨h0, h1⟩
        · refine br_t (show w < 0 from h0) ?_
          repeat refine hX _ _ _ _ _ _ _ _ _ _ _ _ _ _ rfl ?_
          exact ⟨rfl, rfl⟩
        · refine br_f (show ¬ w < 0 from h0) ?_
          repeat refine hX _ _ _ _ _ _ _ _ _ _ _ _ _ _ rfl ?_
          refine br_f (show ¬ w ≤ nI 1 from le_no (by decide) h1) ?_
          repeat refine hX _ _ _ _ _ _ _ _ _ _ _ _ _ _ rfl ?_
          exact ⟨rfl, rfl⟩
    | true =>
      obtain ⟨z, hz, rfl⟩ := inb_of hiw (by decide)
      simp only [cond_true, Bool.and_self, nI_clamp (show j < 2 ^ 31 by omega), nI_clamp (show z < 2 ^ 31 by omega)]
      by_cases h6 : sQ a = 6
      · rw [if_pos h6]
        refine ⟨c, ?_, hR⟩
        cases sw
        all_goals
          (refine exI rfl rfl ?_; intro X hX)
          repeat refine hX _ _ _ _ _ _ _ _ _ _ _ _ _ _ rfl ?_
          refine Or.inl ⟨_, _, hst, ?_⟩
          repeat refine hX _ _ _ _ _ _ _ _ _ _ _ _ _ _ rfl ?_
          refine br_f (show ¬ b2i true = 0 by decide) ?_
          repeat refine hX _ _ _ _ _ _ _ _ _ _ _ _ _ _ rfl ?_
          refine br_f (show ¬ nI z < 0 from nI_pos (by omega)) ?_
          repeat refine hX _ _ _ _ _ _ _ _ _ _ _ _ _ _ rfl ?_
          refine br_t (show nI z ≤ nI 1 from nI_le (by omega) (by decide)) ?_
          repeat refine hX _ _ _ _ _ _ _ _ _ _ _ _ _ _ rfl ?_
          rw [hq]
          refine br_f (show ¬ nI (sQ a) < nI 6 from nI_nlt (by omega) (by omega)) ?_
          repeat refine hX _ _ _ _ _ _ _ _ _ _ _ _ _ _ rfl ?_
          exact ⟨rfl, rfl⟩
      · rw [if_neg h6]
        refine ⟨s_cSeen (s_cSeenW (s_cSeenS c (upd (cSeenS c) (sQ a) (nI j))) (upd (cSeenW c) (sQ a) (nI z))) (nI (sQ a + 1)), ?_, ⟨hR.1, hR.2.1, hR.2.2.1, hR.2.2.2.1, hR.2.2.2.2.1, hR.2.2.2.2.2.1, hR.2.2.2.2.2.2.1, ⟨rfl, fun i hi => ?_⟩, hR.2.2.2.2.2.2.2.2⟩⟩
        rotate_left
        · show upd (cSeenS c) (sQ a) (nI j) i = nI (aup (sOf a) (sQ a) j i) ∧ upd (cSeenW c) (sQ a) (nI z) i = nI (aup (sIs a) (sQ a) z i)
          by_cases hi2 : i = sQ a
          · rw [hi2, pk_us, pk_us, aup_s, aup_s]; exact ⟨rfl, rfl⟩
          · have hi3 : i < sQ a + 1 := hi
            rw [pk_un hi2, pk_un hi2, aup_n _ _ hi2, aup_n _ _ hi2]
            exact hsq i (by omega)
        · cases sw
          all_goals
            (refine exI rfl rfl ?_; intro X hX)
            repeat refine hX _ _ _ _ _ _ _ _ _ _ _ _ _ _ rfl ?_
            refine Or.inl ⟨_, _, hst, ?_⟩
            repeat refine hX _ _ _ _ _ _ _ _ _ _ _ _ _ _ rfl ?_
            refine br_f (show ¬ b2i true = 0 by decide) ?_
            repeat refine hX _ _ _ _ _ _ _ _ _ _ _ _ _ _ rfl ?_
            refine br_f (show ¬ nI z < 0 from nI_pos (by omega)) ?_
            repeat refine hX _ _ _ _ _ _ _ _ _ _ _ _ _ _ rfl ?_
            refine br_t (show nI z ≤ nI 1 from nI_le (by omega) (by decide)) ?_
            repeat refine hX _ _ _ _ _ _ _ _ _ _ _ _ _ _ rfl ?_
            rw [hq]
            refine br_t (show nI (sQ a) < nI 6 from nI_lt (by omega) (by decide)) ?_
            repeat refine hX _ _ _ _ _ _ _ _ _ _ _ _ _ _ rfl ?_
            rw [hq]
            refine ⟨vp_in_nI (by omega) (by decide), ?_⟩
            rw [nI_clamp (by omega)]
            repeat refine hX _ _ _ _ _ _ _ _ _ _ _ _ _ _ rfl ?_
            rw [hq]
            refine ⟨vp_in_nI (by omega) (by decide), ?_⟩
            rw [nI_clamp (by omega)]
            repeat refine hX _ _ _ _ _ _ _ _ _ _ _ _ _ _ rfl ?_
            exact ⟨by rw [hq, nI_1], by rw [hq, nI_1]; rfl⟩
