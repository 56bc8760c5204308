/-! ===== the class: the fewest who must come, the fewest pulls ===== -/
def aAll (A : aT) (N : aN) (pe set : Nat) : Nat → Bool
  | 0 => true
  | j + 1 => aAll A N pe set j && (!set.testBit j || decide (aWe A j ≤ aStr A (pe &&& aWr A N j)))
theorem aAll_no {A : aT} {N : aN} {pe set : Nat} : ∀ (k j : Nat), aAll A N pe set j = false → aAll A N pe set (j + k) = false
  | 0, _, h => h
  | k + 1, j, h => by
    rw [← Nat.add_assoc, aAll, aAll_no k j h, Bool.false_and]
theorem c_allMove (S : zS) (d : Nat) (sw : Bool) (c : cS) (hm : List zC) {A : aT} {N : aN} (hA : TWf A) (hT : TRel (cTo c) A) (hN : NRel A (cSc c) N) {pe set : Nat} (hpe : pe < 64) (hset : set < 64) : Ex S (d + 3) 0 0 68 [.ref 0, .int (nI pe), .int (nI set)] (hC sw c, hm) (some (.int (b2i (aAll A N pe set (aNs A))))) (hC sw c, hm) := by
  have hns := hA.2.2.2.1
  have hwr := fun j (hj : j < aNs A) => c_wr S (d + 1) sw c hm hA hT hN hj
  have hwl := fun j => aWr_lt hA N j
  have hst := fun (x : Nat) (hx : x < 64) => c_strengthOf S d sw c hm hA hT hx
  have hhas := fun h j (hj : j < 6) => c_hasX S (d + 1) h hset hj
  have h5 := fun j hj => (hT.2.2.2.2.1 j hj).1
  have hn := hT.2.2.1
  cases sw
  case false =>
    (refine exI rfl rfl ?_; intro X hX)
    have loop : ∀ (k j : Nat) (v : Option Value), j + k = aNs A → (v = none ∨ ∃ z, v = some (.int z)) → aAll A N pe set j = true → X 2 [some (.ref 0), some (.int (nI pe)), some (.int (nI set)), some (.int (nI j)), v] [] (hC false c, hm) 0 0 := by
      intro k
      induction k with
      | zero =>
        intro j v hj hv ha
        repeat refine hX _ _ _ _ _ _ _ _ _ _ _ _ _ _ rfl ?_
        rw [hn]
        refine br_t (show nI (aNs A) ≤ nI j from nI_le (by omega) (by omega)) ?_
        repeat refine hX _ _ _ _ _ _ _ _ _ _ _ _ _ _ rfl ?_
        exact ⟨Or.inr rfl, by rw [← show j = aNs A by omega, ha]; rfl, rfl⟩
      | succ k ih =>
        intro j v hj hv ha
        have hwe := (hA.2.2.2.2.2.1 j (by omega)).2.1
        have hsl := aStr_le hA (pe &&& aWr A N j)
        have h7 := ih (j + 1) (some (.int (nI (aStr A (pe &&& aWr A N j))))) (by omega) (Or.inr ⟨_, rfl⟩)
        have h8 := aAll_no (A := A) (N := N) (pe := pe) (set := set) k (j + 1)
        rw [show j + 1 + k = aNs A by omega] at h8
        rw [aAll, ha, Bool.true_and] at h7 h8
        rcases hv with rfl | ⟨z, rfl⟩
        all_goals
          repeat refine hX _ _ _ _ _ _ _ _ _ _ _ _ _ _ rfl ?_
          rw [hn]
          refine br_f (show ¬ nI (aNs A) ≤ nI j from nI_ge (by omega) (by omega)) ?_
          repeat refine hX _ _ _ _ _ _ _ _ _ _ _ _ _ _ rfl ?_
          refine Or.inl ⟨_, _, hwr j (by omega), ?_⟩
          iterate 2 (refine hX _ _ _ _ _ _ _ _ _ _ _ _ _ _ rfl ?_)
          rw [q_and _ hpe _ (hwl j)]
          refine Or.inl ⟨_, _, hst _ (q_and_lt hpe), ?_⟩
          repeat refine hX _ _ _ _ _ _ _ _ _ _ _ _ _ _ rfl ?_
          refine Or.inl ⟨_, _, hhas _ j (by omega), ?_⟩
          repeat refine hX _ _ _ _ _ _ _ _ _ _ _ _ _ _ rfl ?_
          cases hb : set.testBit j with
          | false =>
            rw [hb] at h7
            refine br_t (show b2i false = 0 from rfl) ?_
            iterate 2 (refine hX _ _ _ _ _ _ _ _ _ _ _ _ _ _ rfl ?_)
            rw [nI_1]
            exact h7 rfl
          | true =>
            rw [hb] at h7 h8
            refine br_f (show ¬ b2i true = 0 by decide) ?_
            repeat refine hX _ _ _ _ _ _ _ _ _ _ _ _ _ _ rfl ?_
            refine ⟨vp_in_nI (by omega) (by decide), ?_⟩
            rw [nI_clamp (by omega)]
            rw [h5 j (by omega)]
            repeat refine hX _ _ _ _ _ _ _ _ _ _ _ _ _ _ rfl ?_
            by_cases hle : aWe A j ≤ aStr A (pe &&& aWr A N j)
            · refine br_t (show nI (aWe A j) ≤ nI (aStr A (pe &&& aWr A N j)) from nI_le hle (by omega)) ?_
              iterate 2 (refine hX _ _ _ _ _ _ _ _ _ _ _ _ _ _ rfl ?_)
              rw [nI_1]
              exact h7 (by rw [decide_eq_true hle]; rfl)
            · refine br_f (show ¬ nI (aWe A j) ≤ nI (aStr A (pe &&& aWr A N j)) from nI_ge (by omega) (by omega)) ?_
              repeat refine hX _ _ _ _ _ _ _ _ _ _ _ _ _ _ rfl ?_
              exact ⟨Or.inl rfl, by rw [h8 (by rw [decide_eq_false hle]; rfl)]; rfl, rfl⟩
    iterate 2 (refine hX _ _ _ _ _ _ _ _ _ _ _ _ _ _ rfl ?_)
    exact loop (aNs A) 0 none (by omega) (Or.inl rfl) rfl
  case true =>
    (refine exI rfl rfl ?_; intro X hX)
    have loop : ∀ (k j : Nat) (v : Option Value), j + k = aNs A → (v = none ∨ ∃ z, v = some (.int z)) → aAll A N pe set j = true → X 2 [some (.ref 0), some (.int (nI pe)), some (.int (nI set)), some (.int (nI j)), v] [] (hC true c, hm) 0 0 := by
      intro k
      induction k with
      | zero =>
        intro j v hj hv ha
        repeat refine hX _ _ _ _ _ _ _ _ _ _ _ _ _ _ rfl ?_
        rw [hn]
        refine br_t (show nI (aNs A) ≤ nI j from nI_le (by omega) (by omega)) ?_
        repeat refine hX _ _ _ _ _ _ _ _ _ _ _ _ _ _ rfl ?_
        exact ⟨Or.inr rfl, by rw [← show j = aNs A by omega, ha]; rfl, rfl⟩
      | succ k ih =>
        intro j v hj hv ha
        have hwe := (hA.2.2.2.2.2.1 j (by omega)).2.1
        have hsl := aStr_le hA (pe &&& aWr A N j)
        have h7 := ih (j + 1) (some (.int (nI (aStr A (pe &&& aWr A N j))))) (by omega) (Or.inr ⟨_, rfl⟩)
        have h8 := aAll_no (A := A) (N := N) (pe := pe) (set := set) k (j + 1)
        rw [show j + 1 + k = aNs A by omega] at h8
        rw [aAll, ha, Bool.true_and] at h7 h8
        rcases hv with rfl | ⟨z, rfl⟩
        all_goals
          repeat refine hX _ _ _ _ _ _ _ _ _ _ _ _ _ _ rfl ?_
          rw [hn]
          refine br_f (show ¬ nI (aNs A) ≤ nI j from nI_ge (by omega) (by omega)) ?_
          repeat refine hX _ _ _ _ _ _ _ _ _ _ _ _ _ _ rfl ?_
          refine Or.inl ⟨_, _, hwr j (by omega), ?_⟩
          iterate 2 (refine hX _ _ _ _ _ _ _ _ _ _ _ _ _ _ rfl ?_)
          rw [q_and _ hpe _ (hwl j)]
          refine Or.inl ⟨_, _, hst _ (q_and_lt hpe), ?_⟩
          repeat refine hX _ _ _ _ _ _ _ _ _ _ _ _ _ _ rfl ?_
          refine Or.inl ⟨_, _, hhas _ j (by omega), ?_⟩
          repeat refine hX _ _ _ _ _ _ _ _ _ _ _ _ _ _ rfl ?_
          cases hb : set.testBit j with
          | false =>
            rw [hb] at h7
            refine br_t (show b2i false = 0 from rfl) ?_
            iterate 2 (refine hX _ _ _ _ _ _ _ _ _ _ _ _ _ _ rfl ?_)
            rw [nI_1]
            exact h7 rfl
          | true =>
            rw [hb] at h7 h8
            refine br_f (show ¬ b2i true = 0 by decide) ?_
            repeat refine hX _ _ _ _ _ _ _ _ _ _ _ _ _ _ rfl ?_
            refine ⟨vp_in_nI (by omega) (by decide), ?_⟩
            rw [nI_clamp (by omega)]
            rw [h5 j (by omega)]
            repeat refine hX _ _ _ _ _ _ _ _ _ _ _ _ _ _ rfl ?_
            by_cases hle : aWe A j ≤ aStr A (pe &&& aWr A N j)
            · refine br_t (show nI (aWe A j) ≤ nI (aStr A (pe &&& aWr A N j)) from nI_le hle (by omega)) ?_
              iterate 2 (refine hX _ _ _ _ _ _ _ _ _ _ _ _ _ _ rfl ?_)
              rw [nI_1]
              exact h7 (by rw [decide_eq_true hle]; rfl)
            · refine br_f (show ¬ nI (aWe A j) ≤ nI (aStr A (pe &&& aWr A N j)) from nI_ge (by omega) (by omega)) ?_
              repeat refine hX _ _ _ _ _ _ _ _ _ _ _ _ _ _ rfl ?_
              exact ⟨Or.inl rfl, by rw [h8 (by rw [decide_eq_false hle]; rfl)]; rfl, rfl⟩
    iterate 2 (refine hX _ _ _ _ _ _ _ _ _ _ _ _ _ _ rfl ?_)
    exact loop (aNs A) 0 none (by omega) (Or.inl rfl) rfl
def oI (o : Option Nat) : Int32 := match o with
  | none => -9
  | some b => nI b
def oFew (o : Option Nat) (n : Nat) : Bool := match o with
  | none => true
  | some b => decide (pop n < pop b)
def aGa (A : aT) (N : aN) (set : Nat) : Nat → Option Nat
  | 0 => none
  | n + 1 => bif oFew (aGa A N set n) n && aAll A N n set (aNs A) then some n else aGa A N set n
theorem aGa_lt {A : aT} {N : aN} {set : Nat} : ∀ n b, aGa A N set n = some b → b < n
  | 0, _, h => by cases h
  | n + 1, b, h => by
    rw [aGa] at h
    cases hb : (oFew (aGa A N set n) n && aAll A N n set (aNs A)) with
    | false => rw [hb] at h; exact Nat.lt_succ_of_lt (aGa_lt n b h)
    | true => rw [hb] at h; cases h; exact Nat.lt_succ_self _
def spGather (a : aS) (x : Int32) : Int32 := bif inb x (2 ^ aNs (sT a)) then oI (aGa (sT a) (sN a) x.toNatClampNeg (2 ^ aNp (sT a))) else -1
theorem c_gather (S : zS) (d : Nat) (sw : Bool) (c : cS) (hm : List zC) {a : aS} (hA : AWf a) (hR : CRel c a) (x : Int32) : Ex S (d + 4) 0 0 49 [.ref 0, .int x] (hC sw c, hm) (some (.int (spGather a x))) (hC sw c, hm) := by
  have hns := hA.1.2.2.2.1
  have hnp := hA.1.2.2.2.2.1
  have h64 := pow_le64 hnp
  have h64s := pow_le64 hns
  have hn := hR.1.2.2.1
  have hp := hR.1.2.2.2.1
  have hbc := fun h (x : Nat) (hx : x < 64) => j_bcN S (d + 2) h hx
  have e1 := q_shl (aNs (sT a)) (by omega)
  have e2 := q_shl (aNp (sT a)) (by omega)
  unfold spGather
  cases hin : inb x (2 ^ aNs (sT a)) with
  | false =>
    have hno := inb_no hin
    cases sw
    all_goals
      (refine exI rfl rfl ?_; intro X hX)
      repeat refine hX _ _ _ _ _ _ _ _ _ _ _ _ _ _ rfl ?_
      rcases hno with h0 | ⟨h0, h1⟩
      · refine br_t (show x < 0 from h0) ?_
        repeat refine hX _ _ _ _ _ _ _ _ _ _ _ _ _ _ rfl ?_
        exact ⟨rfl, rfl⟩
      · refine br_f (show ¬ x < 0 from h0) ?_
        repeat refine hX _ _ _ _ _ _ _ _ _ _ _ _ _ _ rfl ?_
        rw [hn, e1]
        refine br_f (show ¬ x < nI (2 ^ aNs (sT a)) from Int32.not_lt.mpr h1) ?_
        repeat refine hX _ _ _ _ _ _ _ _ _ _ _ _ _ _ rfl ?_
        exact ⟨rfl, rfl⟩
  | true =>
    obtain ⟨set, hset, rfl⟩ := inb_of hin (by omega)
    simp only [cond_true, nI_clamp (show set < 2 ^ 31 by omega)]
    have hall := fun (pe : Nat) (hpe : pe < 64) => c_allMove S d sw c hm hA.1 hR.1 hR.2.1 (set := set) hpe (by omega)
    cases sw
    case false =>
      (refine exI rfl rfl ?_; intro X hX)
      have loop : ∀ (k i : Nat) (v : Option Value), i + k = 2 ^ aNp (sT a) → (v = none ∨ ∃ z, v = some (.int z)) → X 24 [some (.ref 0), some (.int (nI set)), some (.int (oI (aGa (sT a) (sN a) set i))), some (.int (nI i)), v] [] (hC false c, hm) 0 0 := by
        intro k
        induction k with
        | zero =>
          intro i v hi hv
          repeat refine hX _ _ _ _ _ _ _ _ _ _ _ _ _ _ rfl ?_
          rw [hp, e2]
          refine br_t (show nI (2 ^ aNp (sT a)) ≤ nI i from nI_le (by omega) (by omega)) ?_
          repeat refine hX _ _ _ _ _ _ _ _ _ _ _ _ _ _ rfl ?_
          exact ⟨by rw [show i = 2 ^ aNp (sT a) by omega], rfl⟩
        | succ k ih =>
          intro i v hi hv
          have h7 := fun z => ih (i + 1) (some (.int z)) (by omega) (Or.inr ⟨_, rfl⟩)
          rw [aGa] at h7
          have h77 : ∀ z, (oFew (aGa (sT a) (sN a) set i) i && aAll (sT a) (sN a) i set (aNs (sT a))) = false → X 77 [some (.ref 0), some (.int (nI set)), some (.int (oI (aGa (sT a) (sN a) set i))), some (.int (nI i)), some (.int z)] [] (hC false c, hm) 0 0 := by
            intro z hb
            have h8 := h7 z
            rw [hb] at h8
            iterate 2 (refine hX _ _ _ _ _ _ _ _ _ _ _ _ _ _ rfl ?_)
            rw [nI_1]
            exact h8
          have h61 : X 61 [some (.ref 0), some (.int (nI set)), some (.int (oI (aGa (sT a) (sN a) set i))), some (.int (nI i)), some (.int (b2i (oFew (aGa (sT a) (sN a) set i) i)))] [] (hC false c, hm) 0 0 := by
            repeat refine hX _ _ _ _ _ _ _ _ _ _ _ _ _ _ rfl ?_
            cases hf : oFew (aGa (sT a) (sN a) set i) i with
            | false =>
              refine br_t (show b2i false = 0 from rfl) ?_
              exact h77 _ (by rw [hf, Bool.false_and])
            | true =>
              refine br_f (show ¬ b2i true = 0 by decide) ?_
              repeat refine hX _ _ _ _ _ _ _ _ _ _ _ _ _ _ rfl ?_
              refine Or.inl ⟨_, _, hall i (by omega), ?_⟩
              repeat refine hX _ _ _ _ _ _ _ _ _ _ _ _ _ _ rfl ?_
              cases hm2 : aAll (sT a) (sN a) i set (aNs (sT a)) with
              | false =>
                refine br_t (show b2i false = 0 from rfl) ?_
                exact h77 _ (by rw [hm2, Bool.and_false])
              | true =>
                refine br_f (show ¬ b2i true = 0 by decide) ?_
                have h8 := h7 (b2i true)
                rw [hf, hm2] at h8
                iterate 4 (refine hX _ _ _ _ _ _ _ _ _ _ _ _ _ _ rfl ?_)
                rw [nI_1]
                exact h8
          rcases hv with rfl | ⟨z, rfl⟩
          all_goals
            repeat refine hX _ _ _ _ _ _ _ _ _ _ _ _ _ _ rfl ?_
            rw [hp, e2]
            refine br_f (show ¬ nI (2 ^ aNp (sT a)) ≤ nI i from nI_ge (by omega) (by omega)) ?_
            repeat refine hX _ _ _ _ _ _ _ _ _ _ _ _ _ _ rfl ?_
            cases hg : aGa (sT a) (sN a) set i with
            | none =>
              rw [hg] at h61
              refine br_t (show oI none = -9 from rfl) ?_
              iterate 3 (refine hX _ _ _ _ _ _ _ _ _ _ _ _ _ _ rfl ?_)
              exact h61
            | some b =>
              rw [hg] at h61
              have hbl := aGa_lt _ _ hg
              refine br_f (show ¬ nI b = -9 from n9 b (by omega)) ?_
              repeat refine hX _ _ _ _ _ _ _ _ _ _ _ _ _ _ rfl ?_
              refine Or.inl ⟨_, _, hbc _ i (by omega), ?_⟩
              repeat refine hX _ _ _ _ _ _ _ _ _ _ _ _ _ _ rfl ?_
              refine Or.inl ⟨_, _, hbc _ b (by omega), ?_⟩
              repeat refine hX _ _ _ _ _ _ _ _ _ _ _ _ _ _ rfl ?_
              have hp1 := pop_le i
              have hp2 := pop_le b
              by_cases hlt : pop i < pop b
              · refine br_f (show ¬ nI (pop b) ≤ nI (pop i) from nI_ge hlt (by omega)) ?_
                rw [show oFew (some b) i = true from decide_eq_true hlt] at h61
                iterate 3 (refine hX _ _ _ _ _ _ _ _ _ _ _ _ _ _ rfl ?_)
                exact h61
              · refine br_t (show nI (pop b) ≤ nI (pop i) from nI_le (by omega) (by omega)) ?_
                rw [show oFew (some b) i = false from decide_eq_false hlt] at h61
                iterate 2 (refine hX _ _ _ _ _ _ _ _ _ _ _ _ _ _ rfl ?_)
                exact h61
      repeat refine hX _ _ _ _ _ _ _ _ _ _ _ _ _ _ rfl ?_
      refine br_f (show ¬ nI set < 0 from nI_pos (by omega)) ?_
      repeat refine hX _ _ _ _ _ _ _ _ _ _ _ _ _ _ rfl ?_
      rw [hn, e1]
      refine br_t (show nI set < nI (2 ^ aNs (sT a)) from nI_lt hset (by omega)) ?_
      iterate 4 (refine hX _ _ _ _ _ _ _ _ _ _ _ _ _ _ rfl ?_)
      exact loop (2 ^ aNp (sT a)) 0 none (by omega) (Or.inl rfl)
    case true =>
      (refine exI rfl rfl ?_; intro X hX)
      have loop : ∀ (k i : Nat) (v : Option Value), i + k = 2 ^ aNp (sT a) → (v = none ∨ ∃ z, v = some (.int z)) → X 24 [some (.ref 0), some (.int (nI set)), some (.int (oI (aGa (sT a) (sN a) set i))), some (.int (nI i)), v] [] (hC true c, hm) 0 0 := by
        intro k
        induction k with
        | zero =>
          intro i v hi hv
          repeat refine hX _ _ _ _ _ _ _ _ _ _ _ _ _ _ rfl ?_
          rw [hp, e2]
          refine br_t (show nI (2 ^ aNp (sT a)) ≤ nI i from nI_le (by omega) (by omega)) ?_
          repeat refine hX _ _ _ _ _ _ _ _ _ _ _ _ _ _ rfl ?_
          exact ⟨by rw [show i = 2 ^ aNp (sT a) by omega], rfl⟩
        | succ k ih =>
          intro i v hi hv
          have h7 := fun z => ih (i + 1) (some (.int z)) (by omega) (Or.inr ⟨_, rfl⟩)
          rw [aGa] at h7
          have h77 : ∀ z, (oFew (aGa (sT a) (sN a) set i) i && aAll (sT a) (sN a) i set (aNs (sT a))) = false → X 77 [some (.ref 0), some (.int (nI set)), some (.int (oI (aGa (sT a) (sN a) set i))), some (.int (nI i)), some (.int z)] [] (hC true c, hm) 0 0 := by
            intro z hb
            have h8 := h7 z
            rw [hb] at h8
            iterate 2 (refine hX _ _ _ _ _ _ _ _ _ _ _ _ _ _ rfl ?_)
            rw [nI_1]
            exact h8
          have h61 : X 61 [some (.ref 0), some (.int (nI set)), some (.int (oI (aGa (sT a) (sN a) set i))), some (.int (nI i)), some (.int (b2i (oFew (aGa (sT a) (sN a) set i) i)))] [] (hC true c, hm) 0 0 := by
            repeat refine hX _ _ _ _ _ _ _ _ _ _ _ _ _ _ rfl ?_
            cases hf : oFew (aGa (sT a) (sN a) set i) i with
            | false =>
              refine br_t (show b2i false = 0 from rfl) ?_
              exact h77 _ (by rw [hf, Bool.false_and])
            | true =>
              refine br_f (show ¬ b2i true = 0 by decide) ?_
              repeat refine hX _ _ _ _ _ _ _ _ _ _ _ _ _ _ rfl ?_
              refine Or.inl ⟨_, _, hall i (by omega), ?_⟩
              repeat refine hX _ _ _ _ _ _ _ _ _ _ _ _ _ _ rfl ?_
              cases hm2 : aAll (sT a) (sN a) i set (aNs (sT a)) with
              | false =>
                refine br_t (show b2i false = 0 from rfl) ?_
                exact h77 _ (by rw [hm2, Bool.and_false])
              | true =>
                refine br_f (show ¬ b2i true = 0 by decide) ?_
                have h8 := h7 (b2i true)
                rw [hf, hm2] at h8
                iterate 4 (refine hX _ _ _ _ _ _ _ _ _ _ _ _ _ _ rfl ?_)
                rw [nI_1]
                exact h8
          rcases hv with rfl | ⟨z, rfl⟩
          all_goals
            repeat refine hX _ _ _ _ _ _ _ _ _ _ _ _ _ _ rfl ?_
            rw [hp, e2]
            refine br_f (show ¬ nI (2 ^ aNp (sT a)) ≤ nI i from nI_ge (by omega) (by omega)) ?_
            repeat refine hX _ _ _ _ _ _ _ _ _ _ _ _ _ _ rfl ?_
            cases hg : aGa (sT a) (sN a) set i with
            | none =>
              rw [hg] at h61
              refine br_t (show oI none = -9 from rfl) ?_
              iterate 3 (refine hX _ _ _ _ _ _ _ _ _ _ _ _ _ _ rfl ?_)
              exact h61
            | some b =>
              rw [hg] at h61
              have hbl := aGa_lt _ _ hg
              refine br_f (show ¬ nI b = -9 from n9 b (by omega)) ?_
              repeat refine hX _ _ _ _ _ _ _ _ _ _ _ _ _ _ rfl ?_
              refine Or.inl ⟨_, _, hbc _ i (by omega), ?_⟩
              repeat refine hX _ _ _ _ _ _ _ _ _ _ _ _ _ _ rfl ?_
              refine Or.inl ⟨_, _, hbc _ b (by omega), ?_⟩
              repeat refine hX _ _ _ _ _ _ _ _ _ _ _ _ _ _ rfl ?_
              have hp1 := pop_le i
              have hp2 := pop_le b
              by_cases hlt : pop i < pop b
              · refine br_f (show ¬ nI (pop b) ≤ nI (pop i) from nI_ge hlt (by omega)) ?_
                rw [show oFew (some b) i = true from decide_eq_true hlt] at h61
                iterate 3 (refine hX _ _ _ _ _ _ _ _ _ _ _ _ _ _ rfl ?_)
                exact h61
              · refine br_t (show nI (pop b) ≤ nI (pop i) from nI_le (by omega) (by omega)) ?_
                rw [show oFew (some b) i = false from decide_eq_false hlt] at h61
                iterate 2 (refine hX _ _ _ _ _ _ _ _ _ _ _ _ _ _ rfl ?_)
                exact h61
      repeat refine hX _ _ _ _ _ _ _ _ _ _ _ _ _ _ rfl ?_
      refine br_f (show ¬ nI set < 0 from nI_pos (by omega)) ?_
      repeat refine hX _ _ _ _ _ _ _ _ _ _ _ _ _ _ rfl ?_
      rw [hn, e1]
      refine br_t (show nI set < nI (2 ^ aNs (sT a)) from nI_lt hset (by omega)) ?_
      iterate 4 (refine hX _ _ _ _ _ _ _ _ _ _ _ _ _ _ rfl ?_)
      exact loop (2 ^ aNp (sT a)) 0 none (by omega) (Or.inl rfl)
/-- pulls by which a yard is bare, up and down -/
def aMvAt (A : aT) (N : aN) (t : Nat) : Bool := aMov A N (aSin A N (nI t)).toNatClampNeg
def aBrU (A : aT) (N : aN) : Nat → Nat → Nat → Int32
  | 0, _, _ => -9
  | n + 1, p, t => if aSin A N (nI t) = -9 then nI p else bif aMvAt A N t then aBrU A N n (p + 1) (t + 1) else -9
def aBrD (A : aT) (N : aN) : Nat → Nat → Int32
  | 0, _ => -9
  | f + 1, p => if aSin A N (nI f) = -9 then nI p else bif aMvAt A N f then aBrD A N f (p + 1) else -9
theorem aSin_some {A : aT} (hA : TWf A) {N : aN} {y : Int32} (h : ¬ aSin A N y = -9) : ∃ k, k < aNs A ∧ aSin A N y = nI k := by
  rcases aFst_cases (f := nYa N) (y := y) (aNs A) 0 with h1 | ⟨k, h1, h2, h3, h4⟩
  · exact absurd h1 h
  · exact ⟨k, by omega, h3⟩
theorem c_bareU (S : zS) (d : Nat) (sw : Bool) (c : cS) (hm : List zC) {A : aT} {N : aN} (hA : TWf A) (hT : TRel (cTo c) A) (hW : NWf A N) (hN : NRel A (cSc c) N) {y : Nat} (hy : y < aNy A) : Ex S (d + 5) 0 0 71 [.ref 0, .int (nI y), .int 1] (hC sw c, hm) (some (.int (aBrU A N (aNy A - y) 0 y))) (hC sw c, hm) := by
  have hns := hA.2.2.2.1
  have hny := hA.2.1
  have hsp : ∀ h, Ex S (d + 4) 0 0 85 [.int 1] h (some (.int 1)) h := fun h => c_stepTo S (d + 3) h 1
  have hya := fun x => c_hasYard S (d + 3) sw c hm hT.1 x
  have hsn := fun x => c_statueIn S (d + 3) sw c hm hA hT hN x
  have hmo := fun j (hj : j < aNs A) => c_moves S d sw c hm hA hT hW hN hj
  have hYt := hT.1
  cases sw
  case false =>
    (refine exI rfl rfl ?_; intro X hX)
    have loop : ∀ (n p : Nat) (v4 v5 : Option Value), y + p + n = aNy A → ((v4 = none ∧ v5 = none) ∨ ∃ z1 z2, v4 = some (.int z1) ∧ v5 = some (.int z2)) → aBrU A N n p (y + p) = aBrU A N (aNy A - y) 0 y → X 2 [some (.ref 0), some (.int (nI y)), some (.int 1), some (.int (nI p)), v4, v5] [] (hC false c, hm) 0 0 := by
      intro n
      induction n with
      | zero =>
        intro p v4 v5 hp hv he
        have hf := hya (nI y + nI p * 1)
        rw [Int32.mul_one, nI_add] at hf
        have hnb : inb (nI (y + p)) (aNy A) = false := by
          unfold inb
          rw [decide_eq_false (nI_nlt (show aNy A ≤ y + p by omega) (by omega)), Bool.and_false]
        rw [hnb] at hf
        rcases hv with ⟨rfl, rfl⟩ | ⟨z1, z2, rfl, rfl⟩
        all_goals
          repeat refine hX _ _ _ _ _ _ _ _ _ _ _ _ _ _ rfl ?_
          rw [hYt]
          by_cases h1 : p = aNy A
          · refine br_t (show nI (aNy A) ≤ nI p from nI_le (by omega) (by omega)) ?_
            repeat refine hX _ _ _ _ _ _ _ _ _ _ _ _ _ _ rfl ?_
            exact ⟨by rw [← he]; rfl, rfl⟩
          · refine br_f (show ¬ nI (aNy A) ≤ nI p from nI_ge (by omega) (by omega)) ?_
            repeat refine hX _ _ _ _ _ _ _ _ _ _ _ _ _ _ rfl ?_
            refine Or.inl ⟨_, _, hsp _, ?_⟩
            iterate 3 (refine hX _ _ _ _ _ _ _ _ _ _ _ _ _ _ rfl ?_)
            rw [Int32.mul_one, nI_add]
            repeat refine hX _ _ _ _ _ _ _ _ _ _ _ _ _ _ rfl ?_
            refine Or.inl ⟨_, _, hf, ?_⟩
            repeat refine hX _ _ _ _ _ _ _ _ _ _ _ _ _ _ rfl ?_
            refine br_f (show ¬ ¬ b2i false = 0 by decide) ?_
            repeat refine hX _ _ _ _ _ _ _ _ _ _ _ _ _ _ rfl ?_
            exact ⟨by rw [← he]; rfl, rfl⟩
      | succ n ih =>
        intro p v4 v5 hp hv he
        have hf := hya (nI (y + p))
        rw [inb_nI (show y + p < aNy A by omega) (by omega)] at hf
        rw [aBrU] at he
        rcases hv with ⟨rfl, rfl⟩ | ⟨z1, z2, rfl, rfl⟩
        all_goals
          repeat refine hX _ _ _ _ _ _ _ _ _ _ _ _ _ _ rfl ?_
          rw [hYt]
          refine br_f (show ¬ nI (aNy A) ≤ nI p from nI_ge (by omega) (by omega)) ?_
          repeat refine hX _ _ _ _ _ _ _ _ _ _ _ _ _ _ rfl ?_
          refine Or.inl ⟨_, _, hsp _, ?_⟩
          iterate 3 (refine hX _ _ _ _ _ _ _ _ _ _ _ _ _ _ rfl ?_)
          rw [Int32.mul_one, nI_add]
          repeat refine hX _ _ _ _ _ _ _ _ _ _ _ _ _ _ rfl ?_
          refine Or.inl ⟨_, _, hf, ?_⟩
          repeat refine hX _ _ _ _ _ _ _ _ _ _ _ _ _ _ rfl ?_
          refine br_t (show ¬ b2i true = 0 by decide) ?_
          repeat refine hX _ _ _ _ _ _ _ _ _ _ _ _ _ _ rfl ?_
          refine Or.inl ⟨_, _, hsn _, ?_⟩
          repeat refine hX _ _ _ _ _ _ _ _ _ _ _ _ _ _ rfl ?_
          by_cases h9 : aSin A N (nI (y + p)) = -9
          · rw [if_pos h9] at he
            refine br_f (show ¬ ¬ aSin A N (nI (y + p)) = -9 from fun h => h h9) ?_
            repeat refine hX _ _ _ _ _ _ _ _ _ _ _ _ _ _ rfl ?_
            exact ⟨by rw [← he], rfl⟩
          · rw [if_neg h9] at he
            refine br_t (show ¬ aSin A N (nI (y + p)) = -9 from h9) ?_
            obtain ⟨j, hj, hsj⟩ := aSin_some hA h9
            have hmj := hmo j hj
            have hat : aMvAt A N (y + p) = aMov A N j := by unfold aMvAt; rw [hsj, nI_clamp (by omega)]
            rw [hat] at he
            have h7 := ih (p + 1) (some (.int (nI (y + p)))) (some (.int (aSin A N (nI (y + p))))) (by omega) (Or.inr ⟨_, _, rfl, rfl⟩)
            rw [hsj] at h7 ⊢
            repeat refine hX _ _ _ _ _ _ _ _ _ _ _ _ _ _ rfl ?_
            refine Or.inl ⟨_, _, hmj, ?_⟩
            repeat refine hX _ _ _ _ _ _ _ _ _ _ _ _ _ _ rfl ?_
            cases hb : aMov A N j with
            | false =>
              rw [hb] at he
              refine br_f (show ¬ ¬ b2i false = 0 by decide) ?_
              repeat refine hX _ _ _ _ _ _ _ _ _ _ _ _ _ _ rfl ?_
              exact ⟨by rw [← he]; rfl, rfl⟩
            | true =>
              rw [hb] at he
              refine br_t (show ¬ b2i true = 0 by decide) ?_
              iterate 2 (refine hX _ _ _ _ _ _ _ _ _ _ _ _ _ _ rfl ?_)
              rw [nI_1]
              exact h7 he
    iterate 2 (refine hX _ _ _ _ _ _ _ _ _ _ _ _ _ _ rfl ?_)
    exact loop (aNy A - y) 0 none none (by omega) (Or.inl ⟨rfl, rfl⟩) rfl
  case true =>
    (refine exI rfl rfl ?_; intro X hX)
    have loop : ∀ (n p : Nat) (v4 v5 : Option Value), y + p + n = aNy A → ((v4 = none ∧ v5 = none) ∨ ∃ z1 z2, v4 = some (.int z1) ∧ v5 = some (.int z2)) → aBrU A N n p (y + p) = aBrU A N (aNy A - y) 0 y → X 2 [some (.ref 0), some (.int (nI y)), some (.int 1), some (.int (nI p)), v4, v5] [] (hC true c, hm) 0 0 := by
      intro n
      induction n with
      | zero =>
        intro p v4 v5 hp hv he
        have hf := hya (nI y + nI p * 1)
        rw [Int32.mul_one, nI_add] at hf
        have hnb : inb (nI (y + p)) (aNy A) = false := by
          unfold inb
          rw [decide_eq_false (nI_nlt (show aNy A ≤ y + p by omega) (by omega)), Bool.and_false]
        rw [hnb] at hf
        rcases hv with ⟨rfl, rfl⟩ | ⟨z1, z2, rfl, rfl⟩
        all_goals
          repeat refine hX _ _ _ _ _ _ _ _ _ _ _ _ _ _ rfl ?_
          rw [hYt]
          by_cases h1 : p = aNy A
          · refine br_t (show nI (aNy A) ≤ nI p from nI_le (by omega) (by omega)) ?_
            repeat refine hX _ _ _ _ _ _ _ _ _ _ _ _ _ _ rfl ?_
            exact ⟨by rw [← he]; rfl, rfl⟩
          · refine br_f (show ¬ nI (aNy A) ≤ nI p from nI_ge (by omega) (by omega)) ?_
            repeat refine hX _ _ _ _ _ _ _ _ _ _ _ _ _ _ rfl ?_
            refine Or.inl ⟨_, _, hsp _, ?_⟩
            iterate 3 (refine hX _ _ _ _ _ _ _ _ _ _ _ _ _ _ rfl ?_)
            rw [Int32.mul_one, nI_add]
            repeat refine hX _ _ _ _ _ _ _ _ _ _ _ _ _ _ rfl ?_
            refine Or.inl ⟨_, _, hf, ?_⟩
            repeat refine hX _ _ _ _ _ _ _ _ _ _ _ _ _ _ rfl ?_
            refine br_f (show ¬ ¬ b2i false = 0 by decide) ?_
            repeat refine hX _ _ _ _ _ _ _ _ _ _ _ _ _ _ rfl ?_
            exact ⟨by rw [← he]; rfl, rfl⟩
      | succ n ih =>
        intro p v4 v5 hp hv he
        have hf := hya (nI (y + p))
        rw [inb_nI (show y + p < aNy A by omega) (by omega)] at hf
        rw [aBrU] at he
        rcases hv with ⟨rfl, rfl⟩ | ⟨z1, z2, rfl, rfl⟩
        all_goals
          repeat refine hX _ _ _ _ _ _ _ _ _ _ _ _ _ _ rfl ?_
          rw [hYt]
          refine br_f (show ¬ nI (aNy A) ≤ nI p from nI_ge (by omega) (by omega)) ?_
          repeat refine hX _ _ _ _ _ _ _ _ _ _ _ _ _ _ rfl ?_
          refine Or.inl ⟨_, _, hsp _, ?_⟩
          iterate 3 (refine hX _ _ _ _ _ _ _ _ _ _ _ _ _ _ rfl ?_)
          rw [Int32.mul_one, nI_add]
          repeat refine hX _ _ _ _ _ _ _ _ _ _ _ _ _ _ rfl ?_
          refine Or.inl ⟨_, _, hf, ?_⟩
          repeat refine hX _ _ _ _ _ _ _ _ _ _ _ _ _ _ rfl ?_
          refine br_t (show ¬ b2i true = 0 by decide) ?_
          repeat refine hX _ _ _ _ _ _ _ _ _ _ _ _ _ _ rfl ?_
          refine Or.inl ⟨_, _, hsn _, ?_⟩
          repeat refine hX _ _ _ _ _ _ _ _ _ _ _ _ _ _ rfl ?_
          by_cases h9 : aSin A N (nI (y + p)) = -9
          · rw [if_pos h9] at he
            refine br_f (show ¬ ¬ aSin A N (nI (y + p)) = -9 from fun h => h h9) ?_
            repeat refine hX _ _ _ _ _ _ _ _ _ _ _ _ _ _ rfl ?_
            exact ⟨by rw [← he], rfl⟩
          · rw [if_neg h9] at he
            refine br_t (show ¬ aSin A N (nI (y + p)) = -9 from h9) ?_
            obtain ⟨j, hj, hsj⟩ := aSin_some hA h9
            have hmj := hmo j hj
            have hat : aMvAt A N (y + p) = aMov A N j := by unfold aMvAt; rw [hsj, nI_clamp (by omega)]
            rw [hat] at he
            have h7 := ih (p + 1) (some (.int (nI (y + p)))) (some (.int (aSin A N (nI (y + p))))) (by omega) (Or.inr ⟨_, _, rfl, rfl⟩)
            rw [hsj] at h7 ⊢
            repeat refine hX _ _ _ _ _ _ _ _ _ _ _ _ _ _ rfl ?_
            refine Or.inl ⟨_, _, hmj, ?_⟩
            repeat refine hX _ _ _ _ _ _ _ _ _ _ _ _ _ _ rfl ?_
            cases hb : aMov A N j with
            | false =>
              rw [hb] at he
              refine br_f (show ¬ ¬ b2i false = 0 by decide) ?_
              repeat refine hX _ _ _ _ _ _ _ _ _ _ _ _ _ _ rfl ?_
              exact ⟨by rw [← he]; rfl, rfl⟩
            | true =>
              rw [hb] at he
              refine br_t (show ¬ b2i true = 0 by decide) ?_
              iterate 2 (refine hX _ _ _ _ _ _ _ _ _ _ _ _ _ _ rfl ?_)
              rw [nI_1]
              exact h7 he
    iterate 2 (refine hX _ _ _ _ _ _ _ _ _ _ _ _ _ _ rfl ?_)
    exact loop (aNy A - y) 0 none none (by omega) (Or.inl ⟨rfl, rfl⟩) rfl
