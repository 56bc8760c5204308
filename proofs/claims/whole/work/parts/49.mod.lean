/-! ===== the reference: orders, odds ===== -/
theorem aSumN_tail {f : Nat → Nat} (n : Nat) : ∀ k, (∀ t, n ≤ t → t < n + k → f t = 0) → aSumN f (n + k) = aSumN f n
  | 0, _ => rfl
  | k + 1, h => by
    rw [← Nat.add_assoc, aSumN, h (n + k) (by omega) (by omega), aSumN_tail n k (fun t h1 h2 => h t h1 (by omega)), Nat.add_zero]
theorem aSumN_congr {f g : Nat → Nat} : ∀ n, (∀ t, t < n → f t = g t) → aSumN f n = aSumN g n
  | 0, _ => rfl
  | n + 1, h => by rw [aSumN, aSumN, aSumN_congr n (fun t ht => h t (by omega)), h n (by omega)]
theorem q_big : ∀ n, n ≤ 6 → ∀ o, o < 64 → o < 2 ^ n → ∀ t, t < 64 → 2 ^ n ≤ t → aSub t o = false := by decide +kernel
theorem q_sc1 : ∀ all, all < 64 → ∀ i, i < 64 → ∀ p, p < 6 → aSub i (all &&& (63 ^^^ 2 ^ p)) = (aSub i all && !i.testBit p) := by decide +kernel
def qS (all i p : Nat) : Bool := !(all.testBit p && aSub i (all &&& (63 ^^^ 2 ^ p))) || (decide (pop ((all &&& (63 ^^^ 2 ^ p)) &&& (63 ^^^ i)) = pop all - 1 - pop i) && (decide (pop i ≤ pop all - 1) && decide (1 ≤ pop all)))
theorem q_sc3 : ∀ all, all < 64 → ∀ i, i < 64 → ∀ p, p < 6 → qS all i p = true := by decide +kernel
theorem q_sc2 {all : Nat} (h1 : all < 64) {i : Nat} (h2 : i < 64) {p : Nat} (h3 : p < 6) (h4 : all.testBit p = true) (h5 : aSub i (all &&& (63 ^^^ 2 ^ p)) = true) : pop ((all &&& (63 ^^^ 2 ^ p)) &&& (63 ^^^ i)) = pop all - 1 - pop i ∧ pop i ≤ pop all - 1 ∧ 1 ≤ pop all := by
  have h := q_sc3 all h1 i h2 p h3
  unfold qS at h
  rw [h4, h5] at h
  simpa using h
theorem m_orders (S : zS) (d : Nat) (h : zH) {n : Nat} (hn : n < 100) : Ex S (d + 1) 0 0 132 [.int (nI n)] h (some (.int (nI (fac n)))) h := by
  (refine exI rfl rfl ?_; intro X hX)
  have loop : ∀ (k i : Nat), i + 1 + k = n → X 4 [some (.int (nI n)), some (.int (nI (fac (i + 1)))), some (.int (nI (i + 2)))] [] h 0 0 := by
    intro k
    induction k with
    | zero =>
      intro i hi
      repeat refine hX _ _ _ _ _ _ _ _ _ _ _ _ _ _ rfl ?_
      refine br_t (show nI n < nI (i + 2) from nI_lt (by omega) (by omega)) ?_
      repeat refine hX _ _ _ _ _ _ _ _ _ _ _ _ _ _ rfl ?_
      exact ⟨by rw [show i + 1 = n by omega], rfl⟩
    | succ k ih =>
      intro i hi
      have h7 := ih (i + 1) (by omega)
      rw [fac, Nat.mul_comm] at h7
      repeat refine hX _ _ _ _ _ _ _ _ _ _ _ _ _ _ rfl ?_
      refine br_f (show ¬ nI n < nI (i + 2) from nI_nlt (by omega) (by omega)) ?_
      iterate 6 (refine hX _ _ _ _ _ _ _ _ _ _ _ _ _ _ rfl ?_)
      rw [nI_1, pk_mul]
      exact h7
  by_cases h0 : n = 0
  · subst h0
    repeat refine hX _ _ _ _ _ _ _ _ _ _ _ _ _ _ rfl ?_
    refine br_t (show nI 0 < 2 by decide) ?_
    repeat refine hX _ _ _ _ _ _ _ _ _ _ _ _ _ _ rfl ?_
    exact ⟨rfl, rfl⟩
  · iterate 4 (refine hX _ _ _ _ _ _ _ _ _ _ _ _ _ _ rfl ?_)
    exact loop (n - 1) 0 (by omega)
theorem m_scale (S : zS) (d : Nat) (hc : List zC) (m : mS) {A : aT} {N : aN} (hA : TWf A) (hT : MTold (mTold m) A) (hW : NWf A N) (hN : MRow A (mNow m) 0 N) (x y : Int32) : Ex S (d + 4) 0 0 131 [.ref 1000, .int x, .int y] (hc, hM m) (some (.int (spScale A N x y))) (hc, hM m) := by
  have hns := hA.2.2.2.1
  have hnp := hA.2.2.2.2.1
  have h64 := pow_le64 hnp
  have hon := m_isOne S (d + 1) hc m hA hT x
  have hst := m_isStatue S (d + 1) hc m hA hT y
  unfold spScale
  cases hin : inb x (aNp A) with
  | false =>
    rw [hin] at hon
    (refine exI rfl rfl ?_; intro X hX)
    repeat refine hX _ _ _ _ _ _ _ _ _ _ _ _ _ _ rfl ?_
    refine Or.inl ⟨_, _, hon, ?_⟩
    repeat refine hX _ _ _ _ _ _ _ _ _ _ _ _ _ _ rfl ?_
    refine br_t (show b2i false = 0 from rfl) ?_
    repeat refine hX _ _ _ _ _ _ _ _ _ _ _ _ _ _ rfl ?_
    exact ⟨rfl, rfl⟩
  | true =>
    rw [hin] at hon
    obtain ⟨p, hp, rfl⟩ := inb_of hin (by omega)
    cases hiy : inb y (aNs A) with
    | false =>
      rw [hiy] at hst
      (refine exI rfl rfl ?_; intro X hX)
      repeat refine hX _ _ _ _ _ _ _ _ _ _ _ _ _ _ rfl ?_
      refine Or.inl ⟨_, _, hon, ?_⟩
      repeat refine hX _ _ _ _ _ _ _ _ _ _ _ _ _ _ rfl ?_
      refine br_f (show ¬ b2i true = 0 by decide) ?_
      repeat refine hX _ _ _ _ _ _ _ _ _ _ _ _ _ _ rfl ?_
      refine Or.inl ⟨_, _, hst, ?_⟩
      repeat refine hX _ _ _ _ _ _ _ _ _ _ _ _ _ _ rfl ?_
      refine br_f (show ¬ ¬ b2i false = 0 by decide) ?_
      repeat refine hX _ _ _ _ _ _ _ _ _ _ _ _ _ _ rfl ?_
      exact ⟨rfl, rfl⟩
    | true =>
      rw [hiy] at hst
      obtain ⟨s, hs, rfl⟩ := inb_of hiy (by omega)
      simp only [cond_true, Bool.and_self, nI_clamp (show p < 2 ^ 31 by omega), nI_clamp (show s < 2 ^ 31 by omega)]
      have hwr := m_wronged S d hc m hA hT hW hN hs
      have h6 := (MRow_0 hN).1
      have ean := q_and _ (aWr_lt hA N s) _ (nCo_lt hA hW)
      have hal : aWr A N s &&& nCo N < 64 := q_and_lt (aWr_lt hA N s)
      have hal2 : aWr A N s &&& nCo N < 2 ^ aNp A := Nat.lt_of_le_of_lt Nat.and_le_right hW.1
      generalize aWr A N s &&& nCo N = all at *
      have hhas := fun h => m_hasX S (d + 2) h hal (show p < 6 by omega)
      cases hb : all.testBit p with
      | false =>
        rw [hb] at hhas
        (refine exI rfl rfl ?_; intro X hX)
        repeat refine hX _ _ _ _ _ _ _ _ _ _ _ _ _ _ rfl ?_
        refine Or.inl ⟨_, _, hon, ?_⟩
        repeat refine hX _ _ _ _ _ _ _ _ _ _ _ _ _ _ rfl ?_
        refine br_f (show ¬ b2i true = 0 by decide) ?_
        repeat refine hX _ _ _ _ _ _ _ _ _ _ _ _ _ _ rfl ?_
        refine Or.inl ⟨_, _, hst, ?_⟩
        repeat refine hX _ _ _ _ _ _ _ _ _ _ _ _ _ _ rfl ?_
        refine br_t (show ¬ b2i true = 0 by decide) ?_
        repeat refine hX _ _ _ _ _ _ _ _ _ _ _ _ _ _ rfl ?_
        refine Or.inl ⟨_, _, hwr, ?_⟩
        repeat refine hX _ _ _ _ _ _ _ _ _ _ _ _ _ _ rfl ?_
        refine ⟨by unfold vp_in; decide, ?_⟩
        rw [show (6 : Int32).toNatClampNeg = 6 from rfl]
        rw [h6]
        iterate 2 (refine hX _ _ _ _ _ _ _ _ _ _ _ _ _ _ rfl ?_)
        rw [ean]
        repeat refine hX _ _ _ _ _ _ _ _ _ _ _ _ _ _ rfl ?_
        refine Or.inl ⟨_, _, hhas _, ?_⟩
        repeat refine hX _ _ _ _ _ _ _ _ _ _ _ _ _ _ rfl ?_
        refine br_f (show ¬ ¬ b2i false = 0 by decide) ?_
        repeat refine hX _ _ _ _ _ _ _ _ _ _ _ _ _ _ rfl ?_
        exact ⟨rfl, rfl⟩
      | true =>
        rw [hb] at hhas
        simp only [cond_true]
        have hstr := fun (z : Nat) (hz : z < 64) => m_strength S (d + 1) hc m hA hT hz
        have hone := fun h (z : Nat) (hz : z < 64) => m_ones S (d + 2) h hz
        have hord := fun h (z : Nat) (hz : z < 100) => m_orders S (d + 2) h hz
        have hhi := fun h (z : Nat) (hz : z < 64) => m_hasX S (d + 2) h hz (show p < 6 by omega)
        have hwe := (hT.2.2.2.2.1 s hs).1
        have hsg := (hT.2.2.2.2.2 p hp).2.1
        have hw30 := (hA.2.2.2.2.2.1 s hs).2.1
        have hs9 := (hA.2.2.2.2.2.2 p hp).2.2.1
        have hpa := pop_le all
        have hoth : all &&& (63 ^^^ 2 ^ p) < 2 ^ aNp A := Nat.lt_of_le_of_lt Nat.and_le_left hal2
        have htail : aSumN (aScT A (all &&& (63 ^^^ 2 ^ p)) p s) 64 = aSumN (aScT A (all &&& (63 ^^^ 2 ^ p)) p s) (2 ^ aNp A) := by
          have := aSumN_tail (f := aScT A (all &&& (63 ^^^ 2 ^ p)) p s) (2 ^ aNp A) (64 - 2 ^ aNp A) (fun t h1 h2 => by
            unfold aScT
            rw [q_big _ hnp _ (by omega) hoth t (by omega) h1]
            rfl)
          rwa [show 2 ^ aNp A + (64 - 2 ^ aNp A) = 64 by omega] at this
        rw [← htail]
        clear htail hoth
        (refine exI rfl rfl ?_; intro X hX)
        have loop : ∀ (k i : Nat) (v7 v8 v9 : Option Value), i + k = 64 → ((v7 = none ∧ v8 = none ∧ v9 = none) ∨ ∃ z1 z2 z3, v7 = some (.int z1) ∧ v8 = some (.int z2) ∧ v9 = some (.int z3)) → X 54 [some (.ref 1000), some (.int (nI p)), some (.int (nI s)), some (.int (nI all)), some (.int (nI (pop all))), some (.int (nI (aSumN (aScT A (all &&& (63 ^^^ 2 ^ p)) p s) i))), some (.int (nI i)), v7, v8, v9] [] (hc, hM m) 0 0 := by
          intro k
          induction k with
          | zero =>
            intro i v7 v8 v9 hi hv
            repeat refine hX _ _ _ _ _ _ _ _ _ _ _ _ _ _ rfl ?_
            refine br_t (show nI 64 ≤ nI i from nI_le (by omega) (by omega)) ?_
            repeat refine hX _ _ _ _ _ _ _ _ _ _ _ _ _ _ rfl ?_
            exact ⟨by rw [show i = 64 by omega], rfl⟩
          | succ k ih =>
            intro i v7 v8 v9 hi hv
            have hsl := aStr_le hA i
            have h7 := fun z1 z2 z3 => ih (i + 1) (some (.int z1)) (some (.int z2)) (some (.int z3)) (by omega) (Or.inr ⟨_, _, _, rfl, rfl, rfl⟩)
            rw [aSumN] at h7
            have e1 := q_sc1 all hal i (by omega) p (by omega)
            have e2 := q_sc2 hal (show i < 64 by omega) (show p < 6 by omega) hb
            rw [e1] at e2
            have h140 : ∀ z1 (u : Bool), u = ((aSub i all && !i.testBit p) && (decide (aStr A i < aWe A s) && decide (aWe A s ≤ aStr A i + aSt A p))) → X 140 [some (.ref 1000), some (.int (nI p)), some (.int (nI s)), some (.int (nI all)), some (.int (nI (pop all))), some (.int (nI (aSumN (aScT A (all &&& (63 ^^^ 2 ^ p)) p s) i))), some (.int (nI i)), some (.int z1), some (.int (nI (aStr A i))), v9] [.int (b2i u)] (hc, hM m) 0 0 := by
              intro z1 u hu
              have h8 := h7 z1 (nI (aStr A i)) (b2i u)
              have hv9 : v9 = none ∨ ∃ z, v9 = some (.int z) := by
                rcases hv with ⟨-, -, h⟩ | ⟨_, _, z, -, -, h⟩
                · exact Or.inl h
                · exact Or.inr ⟨z, h⟩
              have e3 : aScT A (all &&& (63 ^^^ 2 ^ p)) p s i = bif u then fac (pop i) * fac (pop ((all &&& (63 ^^^ 2 ^ p)) &&& (63 ^^^ i))) else 0 := by unfold aScT; rw [e1, hu]
              rw [e3] at h8
              rcases hv9 with rfl | ⟨z9, rfl⟩
              all_goals
                repeat refine hX _ _ _ _ _ _ _ _ _ _ _ _ _ _ rfl ?_
                cases u with
                | false =>
                  refine br_t (show b2i false = 0 from rfl) ?_
                  iterate 5 (refine hX _ _ _ _ _ _ _ _ _ _ _ _ _ _ rfl ?_)
                  rw [nI_1, show (0 : Int32) = nI 0 from rfl, nI_add]
                  exact h8
                | true =>
                  have hsb : (aSub i all && !i.testBit p) = true := by
                    cases h : (aSub i all && !i.testBit p) with
                    | true => rfl
                    | false => rw [h] at hu; cases hu
                  obtain ⟨e4, e5, e6⟩ := e2 hsb
                  have hpi := pop_le i
                  rw [e4] at h8
                  refine br_f (show ¬ b2i true = 0 by decide) ?_
                  repeat refine hX _ _ _ _ _ _ _ _ _ _ _ _ _ _ rfl ?_
                  refine Or.inl ⟨_, _, hone _ i (by omega), ?_⟩
                  repeat refine hX _ _ _ _ _ _ _ _ _ _ _ _ _ _ rfl ?_
                  refine Or.inl ⟨_, _, hord _ (pop i) (by omega), ?_⟩
                  iterate 4 (refine hX _ _ _ _ _ _ _ _ _ _ _ _ _ _ rfl ?_)
                  rw [show nI (pop all) - 1 = nI (pop all - 1) from pk_sub (b := 1) e6]
                  repeat refine hX _ _ _ _ _ _ _ _ _ _ _ _ _ _ rfl ?_
                  refine Or.inl ⟨_, _, hone _ i (by omega), ?_⟩
                  iterate 2 (refine hX _ _ _ _ _ _ _ _ _ _ _ _ _ _ rfl ?_)
                  rw [pk_sub e5]
                  refine Or.inl ⟨_, _, hord _ (pop all - 1 - pop i) (by omega), ?_⟩
                  iterate 6 (refine hX _ _ _ _ _ _ _ _ _ _ _ _ _ _ rfl ?_)
                  rw [nI_1, pk_mul, nI_add]
                  exact h8
            have h84 : ∀ u : Bool, u = (aSub i all && !i.testBit p) → X 84 [some (.ref 1000), some (.int (nI p)), some (.int (nI s)), some (.int (nI all)), some (.int (nI (pop all))), some (.int (nI (aSumN (aScT A (all &&& (63 ^^^ 2 ^ p)) p s) i))), some (.int (nI i)), v7, v8, v9] [.int (b2i u)] (hc, hM m) 0 0 := by
              intro u hu
              rw [← hu] at h140
              rcases hv with ⟨rfl, rfl, rfl⟩ | ⟨z1, z2, z3, rfl, rfl, rfl⟩
              all_goals
                repeat refine hX _ _ _ _ _ _ _ _ _ _ _ _ _ _ rfl ?_
                refine Or.inl ⟨_, _, hstr i (by omega), ?_⟩
                repeat refine hX _ _ _ _ _ _ _ _ _ _ _ _ _ _ rfl ?_
                cases u with
                | false =>
                  refine br_t (show b2i false = 0 from rfl) ?_
                  iterate 1 (refine hX _ _ _ _ _ _ _ _ _ _ _ _ _ _ rfl ?_)
                  exact h140 _ false rfl
                | true =>
                  refine br_f (show ¬ b2i true = 0 by decide) ?_
                  repeat refine hX _ _ _ _ _ _ _ _ _ _ _ _ _ _ rfl ?_
                  rw [show (4 : Int32) + nI s = nI (4 + s) from nI_add 4 s]
                  refine ⟨vp_in_nI (by omega) (by decide), ?_⟩
                  rw [nI_clamp (by omega)]
                  rw [hwe]
                  repeat refine hX _ _ _ _ _ _ _ _ _ _ _ _ _ _ rfl ?_
                  by_cases c1 : aStr A i < aWe A s
                  · rw [decide_eq_true c1] at h140
                    refine br_f (show ¬ nI (aWe A s) ≤ nI (aStr A i) from nI_ge c1 (by omega)) ?_
                    repeat refine hX _ _ _ _ _ _ _ _ _ _ _ _ _ _ rfl ?_
                    rw [show (22 : Int32) + nI p = nI (22 + p) from nI_add 22 p]
                    refine ⟨vp_in_nI (by omega) (by decide), ?_⟩
                    rw [nI_clamp (by omega)]
                    rw [hsg]
                    repeat refine hX _ _ _ _ _ _ _ _ _ _ _ _ _ _ rfl ?_
                    rw [nI_add]
                    rw [show (4 : Int32) + nI s = nI (4 + s) from nI_add 4 s]
                    refine ⟨vp_in_nI (by omega) (by decide), ?_⟩
                    rw [nI_clamp (by omega)]
                    rw [hwe]
                    repeat refine hX _ _ _ _ _ _ _ _ _ _ _ _ _ _ rfl ?_
                    by_cases c2 : aWe A s ≤ aStr A i + aSt A p
                    · rw [decide_eq_true c2] at h140
                      refine br_f (show ¬ nI (aStr A i + aSt A p) < nI (aWe A s) from nI_nlt c2 (by omega)) ?_
                      iterate 2 (refine hX _ _ _ _ _ _ _ _ _ _ _ _ _ _ rfl ?_)
                      exact h140 _ true rfl
                    · rw [decide_eq_false c2] at h140
                      refine br_t (show nI (aStr A i + aSt A p) < nI (aWe A s) from nI_lt (by omega) (by omega)) ?_
                      iterate 1 (refine hX _ _ _ _ _ _ _ _ _ _ _ _ _ _ rfl ?_)
                      exact h140 _ false rfl
                  · rw [decide_eq_false c1] at h140
                    refine br_t (show nI (aWe A s) ≤ nI (aStr A i) from nI_le (by omega) (by omega)) ?_
                    iterate 1 (refine hX _ _ _ _ _ _ _ _ _ _ _ _ _ _ rfl ?_)
                    exact h140 _ false rfl
            repeat refine hX _ _ _ _ _ _ _ _ _ _ _ _ _ _ rfl ?_
            refine br_f (show ¬ nI 64 ≤ nI i from nI_ge (by omega) (by decide)) ?_
            repeat refine hX _ _ _ _ _ _ _ _ _ _ _ _ _ _ rfl ?_
            rw [q_andn i (by omega) all hal]
            have hil : i &&& (63 ^^^ all) < 64 := q_and_lt (by omega)
            by_cases h0 : i &&& (63 ^^^ all) = 0
            · have hsu : aSub i all = true := decide_eq_true h0
              refine br_f (show ¬ ¬ nI (i &&& (63 ^^^ all)) = 0 from fun h => h (congrArg nI h0)) ?_
              repeat refine hX _ _ _ _ _ _ _ _ _ _ _ _ _ _ rfl ?_
              refine Or.inl ⟨_, _, hhi _ i (by omega), ?_⟩
              repeat refine hX _ _ _ _ _ _ _ _ _ _ _ _ _ _ rfl ?_
              cases hbi : i.testBit p with
              | true =>
                refine br_t (show ¬ b2i true = 0 by decide) ?_
                iterate 1 (refine hX _ _ _ _ _ _ _ _ _ _ _ _ _ _ rfl ?_)
                exact h84 false (by rw [hsu, hbi]; rfl)
              | false =>
                refine br_f (show ¬ ¬ b2i false = 0 by decide) ?_
                iterate 2 (refine hX _ _ _ _ _ _ _ _ _ _ _ _ _ _ rfl ?_)
                exact h84 true (by rw [hsu, hbi]; rfl)
            · have hsu : aSub i all = false := decide_eq_false h0
              refine br_t (show ¬ nI (i &&& (63 ^^^ all)) = 0 from nI_ne0 (by omega) (by omega)) ?_
              iterate 1 (refine hX _ _ _ _ _ _ _ _ _ _ _ _ _ _ rfl ?_)
              exact h84 false (by rw [hsu]; rfl)
        repeat refine hX _ _ _ _ _ _ _ _ _ _ _ _ _ _ rfl ?_
        refine Or.inl ⟨_, _, hon, ?_⟩
        repeat refine hX _ _ _ _ _ _ _ _ _ _ _ _ _ _ rfl ?_
        refine br_f (show ¬ b2i true = 0 by decide) ?_
        repeat refine hX _ _ _ _ _ _ _ _ _ _ _ _ _ _ rfl ?_
        refine Or.inl ⟨_, _, hst, ?_⟩
        repeat refine hX _ _ _ _ _ _ _ _ _ _ _ _ _ _ rfl ?_
        refine br_t (show ¬ b2i true = 0 by decide) ?_
        repeat refine hX _ _ _ _ _ _ _ _ _ _ _ _ _ _ rfl ?_
        refine Or.inl ⟨_, _, hwr, ?_⟩
        repeat refine hX _ _ _ _ _ _ _ _ _ _ _ _ _ _ rfl ?_
        refine ⟨by unfold vp_in; decide, ?_⟩
        rw [show (6 : Int32).toNatClampNeg = 6 from rfl]
        rw [h6]
        iterate 2 (refine hX _ _ _ _ _ _ _ _ _ _ _ _ _ _ rfl ?_)
        rw [ean]
        repeat refine hX _ _ _ _ _ _ _ _ _ _ _ _ _ _ rfl ?_
        refine Or.inl ⟨_, _, hhas _, ?_⟩
        repeat refine hX _ _ _ _ _ _ _ _ _ _ _ _ _ _ rfl ?_
        refine br_t (show ¬ b2i true = 0 by decide) ?_
        repeat refine hX _ _ _ _ _ _ _ _ _ _ _ _ _ _ rfl ?_
        refine Or.inl ⟨_, _, hone _ all hal, ?_⟩
        iterate 5 (refine hX _ _ _ _ _ _ _ _ _ _ _ _ _ _ rfl ?_)
        exact loop 64 0 none none none (by omega) (Or.inl ⟨rfl, rfl, rfl⟩)
