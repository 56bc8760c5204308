/-! ===== the class: who it was, kinds ===== -/
def aWho (A : aT) (N : aN) (o i : aF) : Nat → Nat
  | 0 => 2 ^ aNp A - 1
  | k + 1 => aWho A N o i k &&& (bif decide (i k = 1) then aWr A N (o k) else 63 ^^^ aWr A N (o k))
theorem aWho_lt {A : aT} (hA : TWf A) (N : aN) (o i : aF) : ∀ k, aWho A N o i k < 64
  | 0 => by
    have := pow_le64 hA.2.2.2.2.1
    have : 0 < 2 ^ aNp A := Nat.two_pow_pos _
    show 2 ^ aNp A - 1 < 64
    omega
  | k + 1 => q_and_lt (aWho_lt hA N o i k)
theorem q_people : ∀ n, n ≤ 6 → (1 : Int32) <<< (nI n &&& 31) - 1 = nI (2 ^ n - 1) := by decide +kernel
theorem c_still (S : zS) (d : Nat) (sw : Bool) (c : cS) (hm : List zC) {a : aS} (hA : AWf a) (hR : CRel c a) : Ex S (d + 2) 0 0 75 [.ref 0] (hC sw c, hm) (some (.int (nI (aWho (sT a) (sN a) (sOf a) (sIs a) (sQ a))))) (hC sw c, hm) := by
  have hnp := hA.1.2.2.2.2.1
  have hns := hA.1.2.2.2.1
  obtain ⟨hq6, hqq⟩ := hA.2.2.2.2.2
  obtain ⟨hq, hsq⟩ := hR.2.2.2.2.2.2.2.1
  have hp := hR.1.2.2.2.1
  have hwr := fun j (hj : j < aNs (sT a)) => c_wr S d sw c hm hA.1 hR.1 hR.2.1 hj
  have hwl := fun j => aWr_lt hA.1 (sN a) j
  have hol := fun k => aWho_lt hA.1 (sN a) (sOf a) (sIs a) k
  cases sw
  case false =>
    (refine exI rfl rfl ?_; intro X hX)
    have loop : ∀ (k i : Nat) (v : Option Value), i + k = sQ a → (v = none ∨ ∃ z, v = some (.int z)) → X 14 [some (.ref 0), some (.int (nI (aWho (sT a) (sN a) (sOf a) (sIs a) i))), some (.int (nI i)), v] [] (hC false c, hm) 0 0 := by
      intro k
      induction k with
      | zero =>
        intro i v hi hv
        repeat refine hX _ _ _ _ _ _ _ _ _ _ _ _ _ _ rfl ?_
        rw [hq]
        refine br_t (show nI (sQ a) ≤ nI i from nI_le (by omega) (by omega)) ?_
        repeat refine hX _ _ _ _ _ _ _ _ _ _ _ _ _ _ rfl ?_
        exact ⟨by rw [show i = sQ a by omega], rfl⟩
      | succ k ih =>
        intro i v hi hv
        obtain ⟨ho2, hi2⟩ := hqq i (by omega)
        have h7 := ih (i + 1) (some (.int (nI (aWr (sT a) (sN a) (sOf a i))))) (by omega) (Or.inr ⟨_, rfl⟩)
        rw [aWho] at h7
        rcases hv with rfl | ⟨z, rfl⟩
        all_goals
          repeat refine hX _ _ _ _ _ _ _ _ _ _ _ _ _ _ rfl ?_
          rw [hq]
          refine br_f (show ¬ nI (sQ a) ≤ nI i from nI_ge (by omega) (by omega)) ?_
          repeat refine hX _ _ _ _ _ _ _ _ _ _ _ _ _ _ rfl ?_
          refine ⟨vp_in_nI (by omega) (by decide), ?_⟩
          rw [nI_clamp (by omega)]
          rw [(hsq i (by omega)).1]
          repeat refine hX _ _ _ _ _ _ _ _ _ _ _ _ _ _ rfl ?_
          refine Or.inl ⟨_, _, hwr _ ho2, ?_⟩
          repeat refine hX _ _ _ _ _ _ _ _ _ _ _ _ _ _ rfl ?_
          refine ⟨vp_in_nI (by omega) (by decide), ?_⟩
          rw [nI_clamp (by omega)]
          rw [(hsq i (by omega)).2]
          repeat refine hX _ _ _ _ _ _ _ _ _ _ _ _ _ _ rfl ?_
          by_cases h1 : sIs a i = 1
          · refine br_f (show ¬ ¬ nI (sIs a i) = 1 from fun h9 => h9 (congrArg nI h1)) ?_
            iterate 6 (refine hX _ _ _ _ _ _ _ _ _ _ _ _ _ _ rfl ?_)
            rw [nI_1, q_and _ (hol i) _ (hwl _)]
            rw [decide_eq_true h1] at h7
            exact h7
          · refine br_t (show ¬ nI (sIs a i) = 1 from fun h9 => h1 ((nI_eq (b := 1) (by omega) (by decide)).mp h9)) ?_
            iterate 7 (refine hX _ _ _ _ _ _ _ _ _ _ _ _ _ _ rfl ?_)
            rw [nI_1, q_andn _ (hol i) _ (hwl _)]
            rw [decide_eq_false h1] at h7
            exact h7
    iterate 5 (refine hX _ _ _ _ _ _ _ _ _ _ _ _ _ _ rfl ?_)
    rw [hp]
    iterate 3 (refine hX _ _ _ _ _ _ _ _ _ _ _ _ _ _ rfl ?_)
    rw [q_people _ hnp]
    iterate 2 (refine hX _ _ _ _ _ _ _ _ _ _ _ _ _ _ rfl ?_)
    exact loop (sQ a) 0 none (by omega) (Or.inl rfl)
  case true =>
    (refine exI rfl rfl ?_; intro X hX)
    have loop : ∀ (k i : Nat) (v : Option Value), i + k = sQ a → (v = none ∨ ∃ z, v = some (.int z)) → X 14 [some (.ref 0), some (.int (nI (aWho (sT a) (sN a) (sOf a) (sIs a) i))), some (.int (nI i)), v] [] (hC true c, hm) 0 0 := by
      intro k
      induction k with
      | zero =>
        intro i v hi hv
        repeat refine hX _ _ _ _ _ _ _ _ _ _ _ _ _ _ rfl ?_
        rw [hq]
        refine br_t (show nI (sQ a) ≤ nI i from nI_le (by omega) (by omega)) ?_
        repeat refine hX _ _ _ _ _ _ _ _ _ _ _ _ _ _ rfl ?_
        exact ⟨by rw [show i = sQ a by omega], rfl⟩
      | succ k ih =>
        intro i v hi hv
        obtain ⟨ho2, hi2⟩ := hqq i (by omega)
        have h7 := ih (i + 1) (some (.int (nI (aWr (sT a) (sN a) (sOf a i))))) (by omega) (Or.inr ⟨_, rfl⟩)
        rw [aWho] at h7
        rcases hv with rfl | ⟨z, rfl⟩
        all_goals
          repeat refine hX _ _ _ _ _ _ _ _ _ _ _ _ _ _ rfl ?_
          rw [hq]
          refine br_f (show ¬ nI (sQ a) ≤ nI i from nI_ge (by omega) (by omega)) ?_
          repeat refine hX _ _ _ _ _ _ _ _ _ _ _ _ _ _ rfl ?_
          refine ⟨vp_in_nI (by omega) (by decide), ?_⟩
          rw [nI_clamp (by omega)]
          rw [(hsq i (by omega)).1]
          repeat refine hX _ _ _ _ _ _ _ _ _ _ _ _ _ _ rfl ?_
          refine Or.inl ⟨_, _, hwr _ ho2, ?_⟩
          repeat refine hX _ _ _ _ _ _ _ _ _ _ _ _ _ _ rfl ?_
          refine ⟨vp_in_nI (by omega) (by decide), ?_⟩
          rw [nI_clamp (by omega)]
          rw [(hsq i (by omega)).2]
          repeat refine hX _ _ _ _ _ _ _ _ _ _ _ _ _ _ rfl ?_
          by_cases h1 : sIs a i = 1
          · refine br_f (show ¬ ¬ nI (sIs a i) = 1 from fun h9 => h9 (congrArg nI h1)) ?_
            iterate 6 (refine hX _ _ _ _ _ _ _ _ _ _ _ _ _ _ rfl ?_)
            rw [nI_1, q_and _ (hol i) _ (hwl _)]
            rw [decide_eq_true h1] at h7
            exact h7
          · refine br_t (show ¬ nI (sIs a i) = 1 from fun h9 => h1 ((nI_eq (b := 1) (by omega) (by decide)).mp h9)) ?_
            iterate 7 (refine hX _ _ _ _ _ _ _ _ _ _ _ _ _ _ rfl ?_)
            rw [nI_1, q_andn _ (hol i) _ (hwl _)]
            rw [decide_eq_false h1] at h7
            exact h7
    iterate 5 (refine hX _ _ _ _ _ _ _ _ _ _ _ _ _ _ rfl ?_)
    rw [hp]
    iterate 3 (refine hX _ _ _ _ _ _ _ _ _ _ _ _ _ _ rfl ?_)
    rw [q_people _ hnp]
    iterate 2 (refine hX _ _ _ _ _ _ _ _ _ _ _ _ _ _ rfl ?_)
    exact loop (sQ a) 0 none (by omega) (Or.inl rfl)
abbrev spWho (a : aS) : Nat := aWho (sT a) (sN a) (sOf a) (sIs a) (sQ a)
theorem c_who (S : zS) (d : Nat) (sw : Bool) (c : cS) (hm : List zC) {a : aS} (hA : AWf a) (hR : CRel c a) : Ex S (d + 3) 0 0 56 [.ref 0] (hC sw c, hm) (some (.int (nI (spWho a)))) (hC sw c, hm) := by
  have h := c_still S d sw c hm hA hR
  cases sw
  all_goals
    (refine exI rfl rfl ?_; intro X hX)
    repeat refine hX _ _ _ _ _ _ _ _ _ _ _ _ _ _ rfl ?_
    refine Or.inl ⟨_, _, h, ?_⟩
    repeat refine hX _ _ _ _ _ _ _ _ _ _ _ _ _ _ rfl ?_
    exact ⟨rfl, rfl⟩
def aPart (A : aT) (N : aN) (set j : Nat) : Nat := max (pop (set &&& aWr A N j)) (pop set - pop (set &&& aWr A N j))
def aShw (A : aT) (N : aN) (set : Nat) : Nat → Int32 × Nat
  | 0 => (-9, 7)
  | j + 1 => bif decide (aPart A N set j < (aShw A N set j).2) then (nI j, aPart A N set j) else aShw A N set j
theorem pop_le (x : Nat) : pop x ≤ 6 := by rw [← pop_cnt]; exact aCnt_le _ 6
theorem pop_and : ∀ a, a < 64 → ∀ b, b < 64 → pop (a &&& b) ≤ pop a := by decide +kernel
theorem aShw_le (A : aT) (N : aN) (set : Nat) : ∀ j, (aShw A N set j).2 ≤ 7
  | 0 => Nat.le_refl _
  | j + 1 => by
    have h1 := pop_le set
    have h2 := pop_le (set &&& aWr A N j)
    rw [aShw]
    cases decide (aPart A N set j < (aShw A N set j).2)
    · exact aShw_le A N set j
    · show aPart A N set j ≤ 7
      unfold aPart
      omega
theorem j_max (S : zS) (d : Nat) (h : zH) {x y : Nat} (hx : x < 2 ^ 31) (hy : y < 2 ^ 31) : Ex S (d + 1) 0 0 152 [.int (nI x), .int (nI y)] h (some (.int (nI (max x y)))) h := by
  (refine exI rfl rfl ?_; intro X hX)
  repeat refine hX _ _ _ _ _ _ _ _ _ _ _ _ _ _ rfl ?_
  by_cases hlt : x < y
  · refine br_t (show nI x < nI y from nI_lt hlt hy) ?_
    repeat refine hX _ _ _ _ _ _ _ _ _ _ _ _ _ _ rfl ?_
    exact ⟨by rw [Nat.max_eq_right (by omega)], rfl⟩
  · refine br_f (show ¬ nI x < nI y from nI_nlt (by omega) hx) ?_
    repeat refine hX _ _ _ _ _ _ _ _ _ _ _ _ _ _ rfl ?_
    exact ⟨by rw [Nat.max_eq_left (by omega)], rfl⟩
def spShow (a : aS) : Int32 := if pop (spWho a) ≤ 1 then -9 else (aShw (sT a) (sN a) (spWho a) (aNs (sT a))).1
theorem c_show (S : zS) (d : Nat) (sw : Bool) (c : cS) (hm : List zC) {a : aS} (hA : AWf a) (hR : CRel c a) : Ex S (d + 3) 0 0 57 [.ref 0] (hC sw c, hm) (some (.int (spShow a))) (hC sw c, hm) := by
  have hns := hA.1.2.2.2.1
  have h : Ex S (d + 2) 0 0 75 [.ref 0] (hC sw c, hm) (some (.int (nI (spWho a)))) (hC sw c, hm) := c_still S d sw c hm hA hR
  have hn := hR.1.2.2.1
  have hlt : spWho a < 64 := aWho_lt hA.1 _ _ _ _
  have hbc := fun hh => j_bcN S (d + 1) hh hlt
  have hwr := fun j (hj : j < aNs (sT a)) => c_wr S (d + 1) sw c hm hA.1 hR.1 hR.2.1 hj
  have hwl := fun j => aWr_lt hA.1 (sN a) j
  have hbc2 := fun hh j => j_bcN S (d + 1) hh (q_and_lt (b := aWr (sT a) (sN a) j) hlt)
  have hpo := pop_le (spWho a)
  unfold spShow
  generalize hset : spWho a = set at *
  by_cases h1 : pop set ≤ 1
  · rw [if_pos h1]
    cases sw
    all_goals
      (refine exI rfl rfl ?_; intro X hX)
      repeat refine hX _ _ _ _ _ _ _ _ _ _ _ _ _ _ rfl ?_
      refine Or.inl ⟨_, _, h, ?_⟩
      repeat refine hX _ _ _ _ _ _ _ _ _ _ _ _ _ _ rfl ?_
      refine Or.inl ⟨_, _, hbc _, ?_⟩
      repeat refine hX _ _ _ _ _ _ _ _ _ _ _ _ _ _ rfl ?_
      refine br_f (show ¬ nI 1 < nI (pop set) from nI_nlt h1 (by decide)) ?_
      repeat refine hX _ _ _ _ _ _ _ _ _ _ _ _ _ _ rfl ?_
      exact ⟨rfl, rfl⟩
  · rw [if_neg h1]
    cases sw
    case false =>
      (refine exI rfl rfl ?_; intro X hX)
      have loop : ∀ (k j : Nat) (v5 v6 : Option Value), j + k = aNs (sT a) → ((v5 = none ∧ v6 = none) ∨ ∃ y z, v5 = some (.int y) ∧ v6 = some (.int z)) → X 25 [some (.ref 0), some (.int (nI set)), some (.int (aShw (sT a) (sN a) set j).1), some (.int (nI (aShw (sT a) (sN a) set j).2)), some (.int (nI j)), v5, v6] [] (hC false c, hm) 0 0 := by
        intro k
        induction k with
        | zero =>
          intro j v5 v6 hj hv
          repeat refine hX _ _ _ _ _ _ _ _ _ _ _ _ _ _ rfl ?_
          rw [hn]
          refine br_t (show nI (aNs (sT a)) ≤ nI j from nI_le (by omega) (by omega)) ?_
          repeat refine hX _ _ _ _ _ _ _ _ _ _ _ _ _ _ rfl ?_
          exact ⟨by rw [show j = aNs (sT a) by omega], rfl⟩
        | succ k ih =>
          intro j v5 v6 hj hv
          have hpl := pop_le (set &&& aWr (sT a) (sN a) j)
          have hpa := pop_and set hlt _ (hwl j)
          have hsl := aShw_le (sT a) (sN a) set j
          have hmx := j_max S (d + 1) (hC false c, hm) (x := pop (set &&& aWr (sT a) (sN a) j)) (y := pop set - pop (set &&& aWr (sT a) (sN a) j)) (by omega) (by omega)
          have hap : aPart (sT a) (sN a) set j ≤ 6 := by unfold aPart; omega
          have h7 := ih (j + 1) (some (.int (nI (pop (set &&& aWr (sT a) (sN a) j))))) (some (.int (nI (aPart (sT a) (sN a) set j)))) (by omega) (Or.inr ⟨_, _, rfl, rfl⟩)
          rw [aShw] at h7
          rcases hv with ⟨rfl, rfl⟩ | ⟨y, z, rfl, rfl⟩
          all_goals
            repeat refine hX _ _ _ _ _ _ _ _ _ _ _ _ _ _ rfl ?_
            rw [hn]
            refine br_f (show ¬ nI (aNs (sT a)) ≤ nI j from nI_ge (by omega) (by omega)) ?_
            repeat refine hX _ _ _ _ _ _ _ _ _ _ _ _ _ _ rfl ?_
            refine Or.inl ⟨_, _, hwr j (by omega), ?_⟩
            iterate 2 (refine hX _ _ _ _ _ _ _ _ _ _ _ _ _ _ rfl ?_)
            rw [q_and _ hlt _ (hwl j)]
            repeat refine hX _ _ _ _ _ _ _ _ _ _ _ _ _ _ rfl ?_
            refine Or.inl ⟨_, _, hbc2 _ j, ?_⟩
            repeat refine hX _ _ _ _ _ _ _ _ _ _ _ _ _ _ rfl ?_
            refine Or.inl ⟨_, _, hbc _, ?_⟩
            iterate 3 (refine hX _ _ _ _ _ _ _ _ _ _ _ _ _ _ rfl ?_)
            rw [pk_sub hpa]
            repeat refine hX _ _ _ _ _ _ _ _ _ _ _ _ _ _ rfl ?_
            refine Or.inl ⟨_, _, hmx, ?_⟩
            repeat refine hX _ _ _ _ _ _ _ _ _ _ _ _ _ _ rfl ?_
            by_cases hl : aPart (sT a) (sN a) set j < (aShw (sT a) (sN a) set j).2
            · refine br_f (show ¬ nI (aShw (sT a) (sN a) set j).2 ≤ nI (aPart (sT a) (sN a) set j) from nI_ge hl (by omega)) ?_
              iterate 6 (refine hX _ _ _ _ _ _ _ _ _ _ _ _ _ _ rfl ?_)
              rw [nI_1]
              rw [decide_eq_true hl] at h7
              exact h7
            · refine br_t (show nI (aShw (sT a) (sN a) set j).2 ≤ nI (aPart (sT a) (sN a) set j) from nI_le (by omega) (by omega)) ?_
              iterate 2 (refine hX _ _ _ _ _ _ _ _ _ _ _ _ _ _ rfl ?_)
              rw [nI_1]
              rw [decide_eq_false hl] at h7
              exact h7
      repeat refine hX _ _ _ _ _ _ _ _ _ _ _ _ _ _ rfl ?_
      refine Or.inl ⟨_, _, h, ?_⟩
      repeat refine hX _ _ _ _ _ _ _ _ _ _ _ _ _ _ rfl ?_
      refine Or.inl ⟨_, _, hbc _, ?_⟩
      repeat refine hX _ _ _ _ _ _ _ _ _ _ _ _ _ _ rfl ?_
      refine br_t (show nI 1 < nI (pop set) from nI_lt (by omega) (by omega)) ?_
      iterate 6 (refine hX _ _ _ _ _ _ _ _ _ _ _ _ _ _ rfl ?_)
      exact loop (aNs (sT a)) 0 none none (by omega) (Or.inl ⟨rfl, rfl⟩)
    case true =>
      (refine exI rfl rfl ?_; intro X hX)
      have loop : ∀ (k j : Nat) (v5 v6 : Option Value), j + k = aNs (sT a) → ((v5 = none ∧ v6 = none) ∨ ∃ y z, v5 = some (.int y) ∧ v6 = some (.int z)) → X 25 [some (.ref 0), some (.int (nI set)), some (.int (aShw (sT a) (sN a) set j).1), some (.int (nI (aShw (sT a) (sN a) set j).2)), some (.int (nI j)), v5, v6] [] (hC true c, hm) 0 0 := by
        intro k
        induction k with
        | zero =>
          intro j v5 v6 hj hv
          repeat refine hX _ _ _ _ _ _ _ _ _ _ _ _ _ _ rfl ?_
          rw [hn]
          refine br_t (show nI (aNs (sT a)) ≤ nI j from nI_le (by omega) (by omega)) ?_
          repeat refine hX _ _ _ _ _ _ _ _ _ _ _ _ _ _ rfl ?_
          exact ⟨by rw [show j = aNs (sT a) by omega], rfl⟩
        | succ k ih =>
          intro j v5 v6 hj hv
          have hpl := pop_le (set &&& aWr (sT a) (sN a) j)
          have hpa := pop_and set hlt _ (hwl j)
          have hsl := aShw_le (sT a) (sN a) set j
          have hmx := j_max S (d + 1) (hC true c, hm) (x := pop (set &&& aWr (sT a) (sN a) j)) (y := pop set - pop (set &&& aWr (sT a) (sN a) j)) (by omega) (by omega)
          have hap : aPart (sT a) (sN a) set j ≤ 6 := by unfold aPart; omega
          have h7 := ih (j + 1) (some (.int (nI (pop (set &&& aWr (sT a) (sN a) j))))) (some (.int (nI (aPart (sT a) (sN a) set j)))) (by omega) (Or.inr ⟨_, _, rfl, rfl⟩)
          rw [aShw] at h7
          rcases hv with ⟨rfl, rfl⟩ | ⟨y, z, rfl, rfl⟩
          all_goals
            repeat refine hX _ _ _ _ _ _ _ _ _ _ _ _ _ _ rfl ?_
            rw [hn]
            refine br_f (show ¬ nI (aNs (sT a)) ≤ nI j from nI_ge (by omega) (by omega)) ?_
            repeat refine hX _ _ _ _ _ _ _ _ _ _ _ _ _ _ rfl ?_
            refine Or.inl ⟨_, _, hwr j (by omega), ?_⟩
            iterate 2 (refine hX _ _ _ _ _ _ _ _ _ _ _ _ _ _ rfl ?_)
            rw [q_and _ hlt _ (hwl j)]
            repeat refine hX _ _ _ _ _ _ _ _ _ _ _ _ _ _ rfl ?_
            refine Or.inl ⟨_, _, hbc2 _ j, ?_⟩
            repeat refine hX _ _ _ _ _ _ _ _ _ _ _ _ _ _ rfl ?_
            refine Or.inl ⟨_, _, hbc _, ?_⟩
            iterate 3 (refine hX _ _ _ _ _ _ _ _ _ _ _ _ _ _ rfl ?_)
            rw [pk_sub hpa]
            repeat refine hX _ _ _ _ _ _ _ _ _ _ _ _ _ _ rfl ?_
            refine Or.inl ⟨_, _, hmx, ?_⟩
            repeat refine hX _ _ _ _ _ _ _ _ _ _ _ _ _ _ rfl ?_
            by_cases hl : aPart (sT a) (sN a) set j < (aShw (sT a) (sN a) set j).2
            · refine br_f (show ¬ nI (aShw (sT a) (sN a) set j).2 ≤ nI (aPart (sT a) (sN a) set j) from nI_ge hl (by omega)) ?_
              iterate 6 (refine hX _ _ _ _ _ _ _ _ _ _ _ _ _ _ rfl ?_)
              rw [nI_1]
              rw [decide_eq_true hl] at h7
              exact h7
            · refine br_t (show nI (aShw (sT a) (sN a) set j).2 ≤ nI (aPart (sT a) (sN a) set j) from nI_le (by omega) (by omega)) ?_
              iterate 2 (refine hX _ _ _ _ _ _ _ _ _ _ _ _ _ _ rfl ?_)
              rw [nI_1]
              rw [decide_eq_false hl] at h7
              exact h7
      repeat refine hX _ _ _ _ _ _ _ _ _ _ _ _ _ _ rfl ?_
      refine Or.inl ⟨_, _, h, ?_⟩
      repeat refine hX _ _ _ _ _ _ _ _ _ _ _ _ _ _ rfl ?_
      refine Or.inl ⟨_, _, hbc _, ?_⟩
      repeat refine hX _ _ _ _ _ _ _ _ _ _ _ _ _ _ rfl ?_
      refine br_t (show nI 1 < nI (pop set) from nI_lt (by omega) (by omega)) ?_
      iterate 6 (refine hX _ _ _ _ _ _ _ _ _ _ _ _ _ _ rfl ?_)
      exact loop (aNs (sT a)) 0 none none (by omega) (Or.inl ⟨rfl, rfl⟩)
/-! kinds -/
theorem c_asStatue (S : zS) (d : Nat) (sw : Bool) (c : cS) (hm : List zC) {A : aT} (hA : TWf A) (hT : TRel (cTo c) A) {j : Nat} (hj : j < aNs A) : Ex S (d + 1) 0 0 76 [.ref 0, .int (nI j)] (hC sw c, hm) (some (.int (nI (aWe A j)))) (hC sw (s_cTraced c (cTraced c + 1)), hm) := by
  have hns := hA.2.2.2.1
  have h := (hT.2.2.2.2.1 j hj).1
  cases sw
  all_goals
    (refine exI rfl rfl ?_; intro X hX)
    repeat refine hX _ _ _ _ _ _ _ _ _ _ _ _ _ _ rfl ?_
    refine ⟨vp_in_nI (by omega) (by decide), ?_⟩
    rw [nI_clamp (by omega)]
    rw [h]
    repeat refine hX _ _ _ _ _ _ _ _ _ _ _ _ _ _ rfl ?_
    exact ⟨rfl, rfl⟩
theorem c_asGeneral (S : zS) (d : Nat) (sw : Bool) (c : cS) (hm : List zC) {A : aT} {N : aN} (hA : TWf A) (hT : TRel (cTo c) A) (hN : NRel A (cSc c) N) {j : Nat} (hj : j < aNs A) : Ex S (d + 2) 0 0 77 [.ref 0, .int (nI j)] (hC sw c, hm) (some (.int (nI (aWe A j) + nI (nYa N j)))) (hC sw (s_cTraced c (cTraced c + 10 + 1)), hm) := by
  have hns := hA.2.2.2.1
  have h := (fun t => c_asStatue S d sw (s_cTraced c t) hm hA hT hj) (cTraced c + 10)
  have hy := hN.2.1 j hj
  cases sw
  all_goals
    (refine exI rfl rfl ?_; intro X hX)
    repeat refine hX _ _ _ _ _ _ _ _ _ _ _ _ _ _ rfl ?_
    refine Or.inl ⟨_, _, h, ?_⟩
    repeat refine hX _ _ _ _ _ _ _ _ _ _ _ _ _ _ rfl ?_
    refine ⟨vp_in_nI (by omega) (by decide), ?_⟩
    rw [nI_clamp (by omega)]
    rw [hy]
    repeat refine hX _ _ _ _ _ _ _ _ _ _ _ _ _ _ rfl ?_
    exact ⟨rfl, rfl⟩
theorem c_asPoet (S : zS) (d : Nat) (sw : Bool) (c : cS) (hm : List zC) {A : aT} {N : aN} (hA : TWf A) (hT : TRel (cTo c) A) (hW : NWf A N) (hN : NRel A (cSc c) N) {j : Nat} (hj : j < aNs A) : Ex S (d + 4) 0 0 78 [.ref 0, .int (nI j)] (hC sw c, hm) (some (.int (nI (aWe A j) - nI (aPull A N j)))) (hC sw (s_cTraced c (cTraced c + 100 + 1)), hm) := by
  have h := (fun t => c_asStatue S (d + 2) sw (s_cTraced c t) hm hA hT hj) (cTraced c + 100)
  have hp := (fun t => c_pullAt S d sw (s_cTraced c t) hm hA hT hW hN hj) (cTraced c + 100 + 1)
  cases sw
  all_goals
    (refine exI rfl rfl ?_; intro X hX)
    repeat refine hX _ _ _ _ _ _ _ _ _ _ _ _ _ _ rfl ?_
    refine Or.inl ⟨_, _, h, ?_⟩
    repeat refine hX _ _ _ _ _ _ _ _ _ _ _ _ _ _ rfl ?_
    refine Or.inl ⟨_, _, hp, ?_⟩
    repeat refine hX _ _ _ _ _ _ _ _ _ _ _ _ _ _ rfl ?_
    exact ⟨rfl, rfl⟩
theorem c_asHorse (S : zS) (d : Nat) (sw : Bool) (c : cS) (hm : List zC) {A : aT} {N : aN} (hA : TWf A) (hT : TRel (cTo c) A) (hN : NRel A (cSc c) N) {j : Nat} (hj : j < aNs A) : Ex S (d + 3) 0 0 79 [.ref 0, .int (nI j)] (hC sw c, hm) (some (.int (2 * (nI (aWe A j) + nI (nYa N j))))) (hC sw (s_cTraced c (cTraced c + 1000 + 10 + 1)), hm) := by
  have h := (fun t => c_asGeneral S d sw (s_cTraced c t) hm hA hT hN hj) (cTraced c + 1000)
  cases sw
  all_goals
    (refine exI rfl rfl ?_; intro X hX)
    repeat refine hX _ _ _ _ _ _ _ _ _ _ _ _ _ _ rfl ?_
    refine Or.inl ⟨_, _, h, ?_⟩
    repeat refine hX _ _ _ _ _ _ _ _ _ _ _ _ _ _ rfl ?_
    exact ⟨rfl, rfl⟩
theorem c_asSaint (S : zS) (d : Nat) (sw : Bool) (c : cS) (hm : List zC) {A : aT} {N : aN} (hA : TWf A) (hT : TRel (cTo c) A) (hW : NWf A N) (hN : NRel A (cSc c) N) {j : Nat} (hj : j < aNs A) : Ex S (d + 5) 0 0 80 [.ref 0, .int (nI j)] (hC sw c, hm) (some (.int (nI (aWe A j) - nI (aPull A N j) + nI j))) (hC sw (s_cTraced c (cTraced c + 10000 + 100 + 1)), hm) := by
  have h := (fun t => c_asPoet S d sw (s_cTraced c t) hm hA hT hW hN hj) (cTraced c + 10000)
  cases sw
  all_goals
    (refine exI rfl rfl ?_; intro X hX)
    repeat refine hX _ _ _ _ _ _ _ _ _ _ _ _ _ _ rfl ?_
    refine Or.inl ⟨_, _, h, ?_⟩
    repeat refine hX _ _ _ _ _ _ _ _ _ _ _ _ _ _ rfl ?_
    exact ⟨rfl, rfl⟩
theorem c_asGirl (S : zS) (d : Nat) (sw : Bool) (c : cS) (hm : List zC) {A : aT} {N : aN} (hA : TWf A) (hT : TRel (cTo c) A) (hN : NRel A (cSc c) N) {j : Nat} (hj : j < aNs A) : Ex S (d + 2) 0 0 81 [.ref 0, .int (nI j)] (hC sw c, hm) (some (.int (nI (aWe A j) + nI (pop (aWr A N j))))) (hC sw (s_cTraced c (cTraced c + 100000 + 1)), hm) := by
  have h := (fun t => c_asStatue S d sw (s_cTraced c t) hm hA hT hj) (cTraced c + 100000)
  have hw := (fun t => c_wr S d sw (s_cTraced c t) hm hA hT hN hj) (cTraced c + 100000 + 1)
  have hbc := fun hh => j_bcN S d hh (aWr_lt hA N j)
  cases sw
  all_goals
    (refine exI rfl rfl ?_; intro X hX)
    repeat refine hX _ _ _ _ _ _ _ _ _ _ _ _ _ _ rfl ?_
    refine Or.inl ⟨_, _, h, ?_⟩
    repeat refine hX _ _ _ _ _ _ _ _ _ _ _ _ _ _ rfl ?_
    refine Or.inl ⟨_, _, hw, ?_⟩
    repeat refine hX _ _ _ _ _ _ _ _ _ _ _ _ _ _ rfl ?_
    refine Or.inl ⟨_, _, hbc _, ?_⟩
    repeat refine hX _ _ _ _ _ _ _ _ _ _ _ _ _ _ rfl ?_
    exact ⟨rfl, rfl⟩
def aRate (a : aS) (k : Int32) (j : Nat) : Int32 := sel k (nI (aWe (sT a) j)) [(1, nI (aWe (sT a) j) + nI (nYa (sN a) j)), (2, nI (aWe (sT a) j) - nI (aPull (sT a) (sN a) j)), (3, 2 * (nI (aWe (sT a) j) + nI (nYa (sN a) j))), (4, nI (aWe (sT a) j) - nI (aPull (sT a) (sN a) j) + nI j), (5, nI (aWe (sT a) j) + nI (pop (aWr (sT a) (sN a) j)))]
def selL (w : Int32) (e : Int64) : List (Int32 × Int64) → Int64
  | [] => e
  | (x, v) :: r => if w = x then v else selL w e r
def aRtr (a : aS) (k : Int32) : Int64 := selL k (sTr a + 1) [(1, sTr a + 10 + 1), (2, sTr a + 100 + 1), (3, sTr a + 1000 + 10 + 1), (4, sTr a + 10000 + 100 + 1), (5, sTr a + 100000 + 1)]
def spRate (a : aS) (k s : Int32) : Int32 × aS := bif inb k 6 && inb s (aNs (sT a)) then (aRate a k s.toNatClampNeg, uTr a (aRtr a k)) else (-1000000, a)
theorem c_rate (S : zS) (d : Nat) (sw : Bool) (c : cS) (hm : List zC) {a : aS} (hA : AWf a) (hR : CRel c a) (k s : Int32) : ∃ c', Ex S (d + 6) 0 0 58 [.ref 0, .int k, .int s] (hC sw c, hm) (some (.int (spRate a k s).1)) (hC sw c', hm) ∧ CRel c' (spRate a k s).2 := by
  have hns := hA.1.2.2.2.1
  have hst := c_hasStatue S (d + 4) sw c hm hR.1.2.2.1 s
  have htr := hR.2.2.2.2.2.2.2.2
  unfold spRate
  cases hik : inb k 6 with
  | false =>
    refine ⟨c, ?_, hR⟩
    have hno := inb_no hik
    cases sw
    all_goals
      (refine exI rfl rfl ?_; intro X hX)
      repeat refine hX _ _ _ _ _ _ _ _ _ _ _ _ _ _ rfl ?_
      rcases hno with h0 | ⟨h0, h1⟩
      · refine br_t (show k < 0 from h0) ?_
        repeat refine hX _ _ _ _ _ _ _ _ _ _ _ _ _ _ rfl ?_
        exact ⟨rfl, rfl⟩
      · refine br_f (show ¬ k < 0 from h0) ?_
        repeat refine hX _ _ _ _ _ _ _ _ _ _ _ _ _ _ rfl ?_
        refine br_t (show nI 6 ≤ k from h1) ?_
        repeat refine hX _ _ _ _ _ _ _ _ _ _ _ _ _ _ rfl ?_
        exact ⟨rfl, rfl⟩
  | true =>
    obtain ⟨z, hz, rfl⟩ := inb_of hik (by decide)
    cases hin : inb s (aNs (sT a)) with
    | false =>
      rw [hin] at hst
      refine ⟨c, ?_, hR⟩
      cases sw
      all_goals
        (refine exI rfl rfl ?_; intro X hX)
        repeat refine hX _ _ _ _ _ _ _ _ _ _ _ _ _ _ rfl ?_
        refine br_f (show ¬ nI z < 0 from nI_pos (by omega)) ?_
        repeat refine hX _ _ _ _ _ _ _ _ _ _ _ _ _ _ rfl ?_
        refine br_f (show ¬ nI 6 ≤ nI z from nI_ge (by omega) (by decide)) ?_
        repeat refine hX _ _ _ _ _ _ _ _ _ _ _ _ _ _ rfl ?_
        refine Or.inl ⟨_, _, hst, ?_⟩
        repeat refine hX _ _ _ _ _ _ _ _ _ _ _ _ _ _ rfl ?_
        refine br_f (show ¬ ¬ b2i false = 0 by decide) ?_
        repeat refine hX _ _ _ _ _ _ _ _ _ _ _ _ _ _ rfl ?_
        exact ⟨rfl, rfl⟩
    | true =>
      rw [hin] at hst
      obtain ⟨j, hj, rfl⟩ := inb_of hin (by omega)
      simp only [cond_true, Bool.and_self, nI_clamp (show j < 2 ^ 31 by omega)]
      have g0 := c_asStatue S (d + 4) sw c hm hA.1 hR.1 hj
      have g1 := c_asGeneral S (d + 3) sw c hm hA.1 hR.1 hR.2.1 hj
      have g2 := c_asPoet S (d + 1) sw c hm hA.1 hR.1 hA.2.1 hR.2.1 hj
      have g3 := c_asHorse S (d + 2) sw c hm hA.1 hR.1 hR.2.1 hj
      have g4 := c_asSaint S d sw c hm hA.1 hR.1 hA.2.1 hR.2.1 hj
      have g5 := c_asGirl S (d + 3) sw c hm hA.1 hR.1 hR.2.1 hj
      have hrel : ∀ t, CRel (s_cTraced c t) (uTr a t) := fun t => ⟨hR.1, hR.2.1, hR.2.2.1, hR.2.2.2.1, hR.2.2.2.2.1, hR.2.2.2.2.2.1, hR.2.2.2.2.2.2.1, hR.2.2.2.2.2.2.2.1, rfl⟩
      refine ⟨s_cTraced c (aRtr a (nI z)), ?_, hrel _⟩
      rw [htr] at g0 g1 g2 g3 g4 g5
      cases sw
      all_goals
        (refine exI rfl rfl ?_; intro X hX)
        repeat refine hX _ _ _ _ _ _ _ _ _ _ _ _ _ _ rfl ?_
        refine br_f (show ¬ nI z < 0 from nI_pos (by omega)) ?_
        repeat refine hX _ _ _ _ _ _ _ _ _ _ _ _ _ _ rfl ?_
        refine br_f (show ¬ nI 6 ≤ nI z from nI_ge (by omega) (by decide)) ?_
        repeat refine hX _ _ _ _ _ _ _ _ _ _ _ _ _ _ rfl ?_
        refine Or.inl ⟨_, _, hst, ?_⟩
        repeat refine hX _ _ _ _ _ _ _ _ _ _ _ _ _ _ rfl ?_
        refine br_t (show ¬ b2i true = 0 by decide) ?_
        repeat refine hX _ _ _ _ _ _ _ _ _ _ _ _ _ _ rfl ?_
        refine ⟨fun hw => ?_, fun h0 => ⟨fun hw => ?_, fun h1 => ⟨fun hw => ?_, fun h2 => ⟨fun hw => ?_, fun h3 => ⟨fun hw => ?_, fun h4 => ?_⟩⟩⟩⟩⟩
        · repeat refine hX _ _ _ _ _ _ _ _ _ _ _ _ _ _ rfl ?_
          refine Or.inl ⟨_, _, g1, ?_⟩
          repeat refine hX _ _ _ _ _ _ _ _ _ _ _ _ _ _ rfl ?_
          exact ⟨by rw [hw]; rfl, by rw [hw]; rfl⟩
        · repeat refine hX _ _ _ _ _ _ _ _ _ _ _ _ _ _ rfl ?_
          refine Or.inl ⟨_, _, g2, ?_⟩
          repeat refine hX _ _ _ _ _ _ _ _ _ _ _ _ _ _ rfl ?_
          exact ⟨by rw [hw]; rfl, by rw [hw]; rfl⟩
        · repeat refine hX _ _ _ _ _ _ _ _ _ _ _ _ _ _ rfl ?_
          refine Or.inl ⟨_, _, g3, ?_⟩
          repeat refine hX _ _ _ _ _ _ _ _ _ _ _ _ _ _ rfl ?_
          exact ⟨by rw [hw]; rfl, by rw [hw]; rfl⟩
        · repeat refine hX _ _ _ _ _ _ _ _ _ _ _ _ _ _ rfl ?_
          refine Or.inl ⟨_, _, g4, ?_⟩
          repeat refine hX _ _ _ _ _ _ _ _ _ _ _ _ _ _ rfl ?_
          exact ⟨by rw [hw]; rfl, by rw [hw]; rfl⟩
        · repeat refine hX _ _ _ _ _ _ _ _ _ _ _ _ _ _ rfl ?_
          refine Or.inl ⟨_, _, g5, ?_⟩
          repeat refine hX _ _ _ _ _ _ _ _ _ _ _ _ _ _ rfl ?_
          exact ⟨by rw [hw]; rfl, by rw [hw]; rfl⟩
        · repeat refine hX _ _ _ _ _ _ _ _ _ _ _ _ _ _ rfl ?_
          refine Or.inl ⟨_, _, g0, ?_⟩
          repeat refine hX _ _ _ _ _ _ _ _ _ _ _ _ _ _ rfl ?_
          exact ⟨by simp only [aRate, sel]; rw [if_neg h0, if_neg h1, if_neg h2, if_neg h3, if_neg h4], by simp only [aRtr, selL]; rw [if_neg h0, if_neg h1, if_neg h2, if_neg h3, if_neg h4]⟩
