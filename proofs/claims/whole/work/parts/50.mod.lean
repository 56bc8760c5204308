def aCh (set x aw : Nat) : Nat → Nat
  | 0 => 1
  | p + 1 => aCh set x aw p * (bif set.testBit p then (bif aw.testBit p then x else 10 - x) else 1)
set_option maxRecDepth 100000 in
theorem q_ch : ∀ set, set < 64 → ∀ aw, aw < 64 → aSub aw set = true → ∀ x, x < 11 → aCh set x aw 6 = aOdW set x (set &&& (63 ^^^ aw)) := by decide +kernel
def subL (set : Nat) : List Nat := (List.range 64).filter (fun t => aSub t set)
set_option maxRecDepth 100000 in
theorem q_rev : ∀ set, set < 64 → (subL set).map (fun aw => set &&& (63 ^^^ aw)) = (subL set).reverse := by decide +kernel
theorem aSumN_list (b : Nat → Bool) (F : Nat → Nat) : ∀ n, aSumN (fun t => bif b t then F t else 0) n = (((List.range n).filter b).map F).sum
  | 0 => rfl
  | n + 1 => by
    rw [aSumN, aSumN_list b F n, List.range_succ, List.filter_append, List.map_append, List.sum_append]
    cases h : b n with
    | false => simp [h]
    | true => simp [h]
theorem sub_sum {set : Nat} (hset : set < 64) (F : Nat → Nat) : aSumN (fun aw => bif aSub aw set then F (set &&& (63 ^^^ aw)) else 0) 64 = aSumN (fun t => bif aSub t set then F t else 0) 64 := by
  rw [aSumN_list (fun t => aSub t set) (fun aw => F (set &&& (63 ^^^ aw))), aSumN_list (fun t => aSub t set) F]
  have h1 : (((List.range 64).filter (fun t => aSub t set)).map (fun aw => F (set &&& (63 ^^^ aw)))) = ((subL set).map (fun aw => set &&& (63 ^^^ aw))).map F := by
    rw [List.map_map]; rfl
  rw [h1, q_rev set hset]
  exact List.Perm.sum_nat ((List.reverse_perm (subL set)).map F)
/-- what the reference adds up: below, above -/
def mOb (set x aw : Nat) : Nat := bif aSub aw set then aCh set x aw 6 else 0
def mOa (A : aT) (j set x aw : Nat) : Nat := bif aSub aw set then (bif decide (aWe A j ≤ aStr A (set &&& (63 ^^^ aw))) then aCh set x aw 6 else 0) else 0
theorem mOb_sum {set x : Nat} (hset : set < 64) (hx : x < 11) : aSumN (mOb set x) 64 = 10 ^ pop set := by
  rw [← q_binom set hset x hx, aSumN_congr (f := mOb set x) (g := fun aw => bif aSub aw set then aOdW set x (set &&& (63 ^^^ aw)) else 0) 64 (fun t ht => ?_), sub_sum hset, aSumN_congr (g := aOdW set x) 64 (fun t ht => ?_)]
  · unfold aOdW
    cases aSub t set <;> rfl
  · unfold mOb
    cases h : aSub t set with
    | false => rfl
    | true => exact q_ch set hset t ht h x hx
theorem mOa_sum {A : aT} (hA : TWf A) {j set x : Nat} (hset : set < 64) (hs2 : set < 2 ^ aNp A) (hx : x < 11) : aSumN (mOa A j set x) 64 = aSumN (aOdT A j set x) (2 ^ aNp A) := by
  have hnp := hA.2.2.2.2.1
  have h64 := pow_le64 hnp
  have htail := aSumN_tail (f := aOdT A j set x) (2 ^ aNp A) (64 - 2 ^ aNp A) (fun t h1 h2 => by
    unfold aOdT aOdW
    rw [q_big _ hnp _ hset hs2 t (by omega) h1]
    cases decide (aWe A j ≤ aStr A t) <;> rfl)
  rw [show 2 ^ aNp A + (64 - 2 ^ aNp A) = 64 by omega] at htail
  rw [← htail, aSumN_congr (f := mOa A j set x) (g := fun aw => bif aSub aw set then aOdT A j set x (set &&& (63 ^^^ aw)) else 0) 64 (fun t ht => ?_), sub_sum hset, aSumN_congr (g := aOdT A j set x) 64 (fun t ht => ?_)]
  · unfold aOdT aOdW
    cases aSub t set <;> cases decide (aWe A j ≤ aStr A t) <;> rfl
  · unfold mOa
    cases h : aSub t set with
    | false => rfl
    | true =>
      unfold aOdT
      rw [q_ch set hset t ht h x hx]
theorem m_odds (S : zS) (d : Nat) (hc : List zC) (m : mS) {A : aT} {N : aN} (hA : TWf A) (hT : MTold (mTold m) A) (hW : NWf A N) (hN : MRow A (mNow m) 0 N) (s x w : Int32) : Ex S (d + 4) 0 0 134 [.ref 1000, .int s, .int x, .int w] (hc, hM m) (some (.int (spOdds A N s x w))) (hc, hM m) := by
  have hns := hA.2.2.2.1
  have hnp := hA.2.2.2.2.1
  have hst := m_isStatue S (d + 1) hc m hA hT s
  have hix64 := fun h => m_in S (d + 2) h x.toInt64 0 (lN 10)
  rw [in64c x (by decide)] at hix64
  have hiw64 := fun h => m_in S (d + 2) h w.toInt64 0 (lN 1)
  rw [in64c w (by decide)] at hiw64
  unfold spOdds
  cases hin : inb s (aNs A) with
  | false =>
    rw [hin] at hst
    (refine exI rfl rfl ?_; intro X hX)
    repeat refine hX _ _ _ _ _ _ _ _ _ _ _ _ _ _ rfl ?_
    refine Or.inl ⟨_, _, hst, ?_⟩
    repeat refine hX _ _ _ _ _ _ _ _ _ _ _ _ _ _ rfl ?_
    refine br_t (show b2i false = 0 from rfl) ?_
    repeat refine hX _ _ _ _ _ _ _ _ _ _ _ _ _ _ rfl ?_
    exact ⟨rfl, rfl⟩
  | true =>
    rw [hin] at hst
    obtain ⟨j, hj, rfl⟩ := inb_of hin (by omega)
    cases hix : inb x 11 with
    | false =>
      rw [hix] at hix64
      (refine exI rfl rfl ?_; intro X hX)
      repeat refine hX _ _ _ _ _ _ _ _ _ _ _ _ _ _ rfl ?_
      refine Or.inl ⟨_, _, hst, ?_⟩
      repeat refine hX _ _ _ _ _ _ _ _ _ _ _ _ _ _ rfl ?_
      refine br_f (show ¬ b2i true = 0 by decide) ?_
      repeat refine hX _ _ _ _ _ _ _ _ _ _ _ _ _ _ rfl ?_
      refine Or.inl ⟨_, _, hix64 _, ?_⟩
      repeat refine hX _ _ _ _ _ _ _ _ _ _ _ _ _ _ rfl ?_
      refine br_t (show b2i false = 0 from rfl) ?_
      repeat refine hX _ _ _ _ _ _ _ _ _ _ _ _ _ _ rfl ?_
      exact ⟨rfl, rfl⟩
    | true =>
      rw [hix] at hix64
      obtain ⟨xx, hxx, rfl⟩ := inb_of hix (by decide)
      cases hiw : inb w 2 with
      | false =>
        rw [hiw] at hiw64
        (refine exI rfl rfl ?_; intro X hX)
        repeat refine hX _ _ _ _ _ _ _ _ _ _ _ _ _ _ rfl ?_
        refine Or.inl ⟨_, _, hst, ?_⟩
        repeat refine hX _ _ _ _ _ _ _ _ _ _ _ _ _ _ rfl ?_
        refine br_f (show ¬ b2i true = 0 by decide) ?_
        repeat refine hX _ _ _ _ _ _ _ _ _ _ _ _ _ _ rfl ?_
        refine Or.inl ⟨_, _, hix64 _, ?_⟩
        repeat refine hX _ _ _ _ _ _ _ _ _ _ _ _ _ _ rfl ?_
        refine br_f (show ¬ b2i true = 0 by decide) ?_
        repeat refine hX _ _ _ _ _ _ _ _ _ _ _ _ _ _ rfl ?_
        refine Or.inl ⟨_, _, hiw64 _, ?_⟩
        repeat refine hX _ _ _ _ _ _ _ _ _ _ _ _ _ _ rfl ?_
        refine br_f (show ¬ ¬ b2i false = 0 by decide) ?_
        repeat refine hX _ _ _ _ _ _ _ _ _ _ _ _ _ _ rfl ?_
        exact ⟨rfl, rfl⟩
      | true =>
        rw [hiw] at hiw64
        simp only [cond_true, Bool.and_self, nI_clamp (show j < 2 ^ 31 by omega), nI_clamp (show xx < 2 ^ 31 by omega)]
        have hwr := m_wronged S d hc m hA hT hW hN hj
        have h6 := (MRow_0 hN).1
        have ean := q_and _ (aWr_lt hA N j) _ (nCo_lt hA hW)
        have hal : aWr A N j &&& nCo N < 64 := q_and_lt (aWr_lt hA N j)
        have hal2 : aWr A N j &&& nCo N < 2 ^ aNp A := Nat.lt_of_le_of_lt Nat.and_le_right hW.1
        have hule := aOdU_le hA N j hxx
        unfold aOdU at hule ⊢
        have htn := pop_ten (aWr A N j &&& nCo N)
        generalize aWr A N j &&& nCo N = all at *
        rw [← mOb_sum hal hxx] at hule htn ⊢
        rw [← mOa_sum hA hal hal2 hxx] at hule ⊢
        have hstr := fun (z : Nat) (hz : z < 64) => m_strength S (d + 1) hc m hA hT hz
        have hha := fun h p (hp : p < 6) => m_hasX S (d + 2) h hal hp
        have hhi := fun h (z : Nat) (hz : z < 64) p (hp : p < 6) => m_hasX S (d + 2) h hz hp
        have hwe := (hT.2.2.2.2.1 j hj).1
        have hw30 := (hA.2.2.2.2.2.1 j hj).2.1
        (refine exI rfl rfl ?_; intro X hX)
        have hfin : ∀ v9, X 206 [some (.ref 1000), some (.int (nI j)), some (.int (nI xx)), some (.int w), some (.int (nI all)), some (.int (nI (aSumN (mOa A j all xx) 64))), some (.int (nI (aSumN (mOb all xx) 64))), some (.int (nI (Nat.gcd (aSumN (mOa A j all xx) 64) (aSumN (mOb all xx) 64)))), some (.int (nI 0)), v9] [] (hc, hM m) 0 0 := by
          intro v9
          have hg0 : 0 < Nat.gcd (aSumN (mOa A j all xx) 64) (aSumN (mOb all xx) 64) := Nat.gcd_pos_of_pos_right _ htn.2
          have hgl : Nat.gcd (aSumN (mOa A j all xx) 64) (aSumN (mOb all xx) 64) ≤ aSumN (mOb all xx) 64 := Nat.gcd_le_right _ htn.2
          repeat refine hX _ _ _ _ _ _ _ _ _ _ _ _ _ _ rfl ?_
          by_cases h0 : w = 0
          · refine br_f (show ¬ ¬ w = 0 from fun h => h h0) ?_
            repeat refine hX _ _ _ _ _ _ _ _ _ _ _ _ _ _ rfl ?_
            refine ⟨nI_ne0 hg0 (by omega), ?_⟩
            repeat refine hX _ _ _ _ _ _ _ _ _ _ _ _ _ _ rfl ?_
            exact ⟨by unfold aOdds; rw [if_pos h0, pk_div (by omega) hg0 (by omega)], rfl⟩
          · refine br_t (show ¬ w = 0 from h0) ?_
            repeat refine hX _ _ _ _ _ _ _ _ _ _ _ _ _ _ rfl ?_
            refine ⟨nI_ne0 hg0 (by omega), ?_⟩
            repeat refine hX _ _ _ _ _ _ _ _ _ _ _ _ _ _ rfl ?_
            exact ⟨by unfold aOdds; rw [if_neg h0, pk_div (by omega) hg0 (by omega)], rfl⟩
        have gl : ∀ (k g r : Nat) (v9 : Option Value), (v9 = none ∨ ∃ z, v9 = some (.int z)) → g < 2 ^ 30 → r < 2 ^ 30 → r ≤ k → Nat.gcd g r = Nat.gcd (aSumN (mOa A j all xx) 64) (aSumN (mOb all xx) 64) → X 183 [some (.ref 1000), some (.int (nI j)), some (.int (nI xx)), some (.int w), some (.int (nI all)), some (.int (nI (aSumN (mOa A j all xx) 64))), some (.int (nI (aSumN (mOb all xx) 64))), some (.int (nI g)), some (.int (nI r)), v9] [] (hc, hM m) 0 0 := by
          intro k
          induction k with
          | zero =>
            intro g r v9 hv hg hr hk he
            have : r = 0 := by omega
            subst this
            rw [Nat.gcd_zero_right] at he
            rw [he]
            repeat refine hX _ _ _ _ _ _ _ _ _ _ _ _ _ _ rfl ?_
            refine br_t (show nI 0 = 0 from rfl) ?_
            exact hfin v9
          | succ k ih =>
            intro g r v9 hv hg hr hk he
            rcases Nat.eq_zero_or_pos r with h0 | h0
            · subst h0
              rw [Nat.gcd_zero_right] at he
              rw [he]
              repeat refine hX _ _ _ _ _ _ _ _ _ _ _ _ _ _ rfl ?_
              refine br_t (show nI 0 = 0 from rfl) ?_
              exact hfin v9
            · have hmd := Nat.mod_lt g h0
              have h7 := ih r (g % r) (some (.int (nI (g % r)))) (Or.inr ⟨_, rfl⟩) hr (by omega) (by omega) (by rw [← he, Nat.gcd_comm g r, Nat.gcd_rec r g, Nat.gcd_comm])
              rcases hv with rfl | ⟨z, rfl⟩
              all_goals
                repeat refine hX _ _ _ _ _ _ _ _ _ _ _ _ _ _ rfl ?_
                refine br_f (show ¬ nI r = 0 from nI_ne0 h0 (by omega)) ?_
                repeat refine hX _ _ _ _ _ _ _ _ _ _ _ _ _ _ rfl ?_
                refine ⟨nI_ne0 h0 (by omega), ?_⟩
                rw [pk_rem (by omega) h0 (by omega)]
                iterate 6 (refine hX _ _ _ _ _ _ _ _ _ _ _ _ _ _ rfl ?_)
                exact h7
        have loop : ∀ (k i : Nat) (v8 v9 : Option Value), i + k = 64 → ((v8 = none ∧ v9 = none) ∨ ∃ z2 z3, v8 = some (.int z2) ∧ v9 = some (.int z3)) → X 56 [some (.ref 1000), some (.int (nI j)), some (.int (nI xx)), some (.int w), some (.int (nI all)), some (.int (nI (aSumN (mOa A j all xx) i))), some (.int (nI (aSumN (mOb all xx) i))), some (.int (nI i)), v8, v9] [] (hc, hM m) 0 0 := by
          intro k
          induction k with
          | zero =>
            intro i v8 v9 hi hv
            have : i = 64 := by omega
            subst this
            have hv9 : v9 = none ∨ ∃ z, v9 = some (.int z) := by
              rcases hv with ⟨-, h⟩ | ⟨_, z, -, h⟩
              · exact Or.inl h
              · exact Or.inr ⟨z, h⟩
            have h7 := gl _ (aSumN (mOa A j all xx) 64) (aSumN (mOb all xx) 64) v9 hv9 (by omega) (by omega) (Nat.le_refl _) rfl
            rcases hv with ⟨rfl, rfl⟩ | ⟨z2, z3, rfl, rfl⟩
            all_goals
              repeat refine hX _ _ _ _ _ _ _ _ _ _ _ _ _ _ rfl ?_
              refine br_t (show nI 64 ≤ nI 64 from nI_le (by omega) (by omega)) ?_
              iterate 4 (refine hX _ _ _ _ _ _ _ _ _ _ _ _ _ _ rfl ?_)
              exact h7
          | succ k ih =>
            intro i v8 v9 hi hv
            have hil : i &&& (63 ^^^ all) < 64 := q_and_lt (by omega)
            by_cases h0 : i &&& (63 ^^^ all) = 0
            · have hsu : aSub i all = true := decide_eq_true h0
              have hdl : all &&& (63 ^^^ i) < 64 := q_and_lt hal
              have hsl := aStr_le hA (all &&& (63 ^^^ i))
              have h7 := fun z2 z3 => ih (i + 1) (some (.int z2)) (some (.int z3)) (by omega) (Or.inr ⟨_, _, rfl, rfl⟩)
              rw [aSumN, aSumN, show mOb all xx i = aCh all xx i 6 by rw [mOb, hsu]; rfl, show mOa A j all xx i = (bif decide (aWe A j ≤ aStr A (all &&& (63 ^^^ i))) then aCh all xx i 6 else 0) by rw [mOa, hsu]; rfl] at h7
              have inner : ∀ (q p : Nat), p + q = 6 → X 79 [some (.ref 1000), some (.int (nI j)), some (.int (nI xx)), some (.int w), some (.int (nI all)), some (.int (nI (aSumN (mOa A j all xx) i))), some (.int (nI (aSumN (mOb all xx) i))), some (.int (nI i)), some (.int (nI (aCh all xx i p))), some (.int (nI p))] [] (hc, hM m) 0 0 := by
                intro q
                induction q with
                | zero =>
                  intro p hp
                  have : p = 6 := by omega
                  subst this
                  repeat refine hX _ _ _ _ _ _ _ _ _ _ _ _ _ _ rfl ?_
                  refine br_t (show nI 6 ≤ nI 6 from nI_le (by omega) (by omega)) ?_
                  iterate 12 (refine hX _ _ _ _ _ _ _ _ _ _ _ _ _ _ rfl ?_)
                  rw [nI_add, q_andn all hal i (by omega)]
                  refine Or.inl ⟨_, _, hstr _ hdl, ?_⟩
                  repeat refine hX _ _ _ _ _ _ _ _ _ _ _ _ _ _ rfl ?_
                  rw [show (4 : Int32) + nI j = nI (4 + j) from nI_add 4 j]
                  refine ⟨vp_in_nI (by omega) (by decide), ?_⟩
                  rw [nI_clamp (by omega)]
                  rw [hwe]
                  repeat refine hX _ _ _ _ _ _ _ _ _ _ _ _ _ _ rfl ?_
                  have h8 := h7 (nI (aCh all xx i 6)) (nI 6)
                  by_cases hle : aWe A j ≤ aStr A (all &&& (63 ^^^ i))
                  · refine br_f (show ¬ nI (aStr A (all &&& (63 ^^^ i))) < nI (aWe A j) from nI_nlt hle (by omega)) ?_
                    rw [decide_eq_true hle] at h8
                    iterate 6 (refine hX _ _ _ _ _ _ _ _ _ _ _ _ _ _ rfl ?_)
                    rw [nI_1, nI_add]
                    exact h8
                  · refine br_t (show nI (aStr A (all &&& (63 ^^^ i))) < nI (aWe A j) from nI_lt (by omega) (by omega)) ?_
                    rw [decide_eq_false hle] at h8
                    iterate 5 (refine hX _ _ _ _ _ _ _ _ _ _ _ _ _ _ rfl ?_)
                    rw [nI_1, show (0 : Int32) = nI 0 from rfl, nI_add]
                    exact h8
                | succ q ihq =>
                  intro p hp
                  have h8 := ihq (p + 1) (by omega)
                  rw [aCh] at h8
                  have h120 : ∀ f : Nat, f = (bif all.testBit p then (bif i.testBit p then xx else 10 - xx) else 1) → X 120 [some (.ref 1000), some (.int (nI j)), some (.int (nI xx)), some (.int w), some (.int (nI all)), some (.int (nI (aSumN (mOa A j all xx) i))), some (.int (nI (aSumN (mOb all xx) i))), some (.int (nI i)), some (.int (nI (aCh all xx i p))), some (.int (nI p))] [.int (nI f), .int (nI (aCh all xx i p))] (hc, hM m) 0 0 := by
                    intro f hf
                    rw [← hf] at h8
                    iterate 4 (refine hX _ _ _ _ _ _ _ _ _ _ _ _ _ _ rfl ?_)
                    rw [nI_1, pk_mul]
                    exact h8
                  repeat refine hX _ _ _ _ _ _ _ _ _ _ _ _ _ _ rfl ?_
                  refine br_f (show ¬ nI 6 ≤ nI p from nI_ge (by omega) (by omega)) ?_
                  repeat refine hX _ _ _ _ _ _ _ _ _ _ _ _ _ _ rfl ?_
                  refine Or.inl ⟨_, _, hha _ p (by omega), ?_⟩
                  repeat refine hX _ _ _ _ _ _ _ _ _ _ _ _ _ _ rfl ?_
                  cases hb1 : all.testBit p with
                  | false =>
                    refine br_f (show ¬ ¬ b2i false = 0 by decide) ?_
                    iterate 2 (refine hX _ _ _ _ _ _ _ _ _ _ _ _ _ _ rfl ?_)
                    exact h120 1 (by rw [hb1]; rfl)
                  | true =>
                    refine br_t (show ¬ b2i true = 0 by decide) ?_
                    repeat refine hX _ _ _ _ _ _ _ _ _ _ _ _ _ _ rfl ?_
                    refine Or.inl ⟨_, _, hhi _ i (by omega) p (by omega), ?_⟩
                    repeat refine hX _ _ _ _ _ _ _ _ _ _ _ _ _ _ rfl ?_
                    cases hb2 : i.testBit p with
                    | true =>
                      refine br_f (show ¬ b2i true = 0 by decide) ?_
                      iterate 2 (refine hX _ _ _ _ _ _ _ _ _ _ _ _ _ _ rfl ?_)
                      exact h120 xx (by rw [hb1, hb2]; rfl)
                    | false =>
                      refine br_t (show b2i false = 0 from rfl) ?_
                      have h9 := h120 (10 - xx) (by rw [hb1, hb2]; rfl)
                      rw [← show (10 : Int32) - nI xx = nI (10 - xx) from pk_sub (a := 10) (by omega)] at h9
                      iterate 3 (refine hX _ _ _ _ _ _ _ _ _ _ _ _ _ _ rfl ?_)
                      exact h9
              rcases hv with ⟨rfl, rfl⟩ | ⟨z2, z3, rfl, rfl⟩
              all_goals
                repeat refine hX _ _ _ _ _ _ _ _ _ _ _ _ _ _ rfl ?_
                refine br_f (show ¬ nI 64 ≤ nI i from nI_ge (by omega) (by decide)) ?_
                repeat refine hX _ _ _ _ _ _ _ _ _ _ _ _ _ _ rfl ?_
                rw [q_andn i (by omega) all hal]
                refine br_f (show ¬ ¬ nI (i &&& (63 ^^^ all)) = 0 from fun h => h (congrArg nI h0)) ?_
                iterate 4 (refine hX _ _ _ _ _ _ _ _ _ _ _ _ _ _ rfl ?_)
                exact inner 6 0 (by omega)
            · have hsu : aSub i all = false := decide_eq_false h0
              have h7 := ih (i + 1) v8 v9 (by omega) hv
              rw [aSumN, aSumN, show mOb all xx i = 0 by rw [mOb, hsu]; rfl, show mOa A j all xx i = 0 by rw [mOa, hsu]; rfl] at h7
              rcases hv with ⟨rfl, rfl⟩ | ⟨z2, z3, rfl, rfl⟩
              all_goals
                repeat refine hX _ _ _ _ _ _ _ _ _ _ _ _ _ _ rfl ?_
                refine br_f (show ¬ nI 64 ≤ nI i from nI_ge (by omega) (by decide)) ?_
                repeat refine hX _ _ _ _ _ _ _ _ _ _ _ _ _ _ rfl ?_
                rw [q_andn i (by omega) all hal]
                refine br_t (show ¬ nI (i &&& (63 ^^^ all)) = 0 from nI_ne0 (by omega) (by omega)) ?_
                iterate 2 (refine hX _ _ _ _ _ _ _ _ _ _ _ _ _ _ rfl ?_)
                rw [nI_1]
                exact h7
        repeat refine hX _ _ _ _ _ _ _ _ _ _ _ _ _ _ rfl ?_
        refine Or.inl ⟨_, _, hst, ?_⟩
        repeat refine hX _ _ _ _ _ _ _ _ _ _ _ _ _ _ rfl ?_
        refine br_f (show ¬ b2i true = 0 by decide) ?_
        repeat refine hX _ _ _ _ _ _ _ _ _ _ _ _ _ _ rfl ?_
        refine Or.inl ⟨_, _, hix64 _, ?_⟩
        repeat refine hX _ _ _ _ _ _ _ _ _ _ _ _ _ _ rfl ?_
        refine br_f (show ¬ b2i true = 0 by decide) ?_
        repeat refine hX _ _ _ _ _ _ _ _ _ _ _ _ _ _ rfl ?_
        refine Or.inl ⟨_, _, hiw64 _, ?_⟩
        repeat refine hX _ _ _ _ _ _ _ _ _ _ _ _ _ _ rfl ?_
        refine br_t (show ¬ b2i true = 0 by decide) ?_
        repeat refine hX _ _ _ _ _ _ _ _ _ _ _ _ _ _ rfl ?_
        refine Or.inl ⟨_, _, hwr, ?_⟩
        repeat refine hX _ _ _ _ _ _ _ _ _ _ _ _ _ _ rfl ?_
        refine ⟨by unfold vp_in; decide, ?_⟩
        rw [show (6 : Int32).toNatClampNeg = 6 from rfl]
        rw [h6]
        iterate 2 (refine hX _ _ _ _ _ _ _ _ _ _ _ _ _ _ rfl ?_)
        rw [ean]
        iterate 6 (refine hX _ _ _ _ _ _ _ _ _ _ _ _ _ _ rfl ?_)
        exact loop 64 0 none none (by omega) (Or.inl ⟨rfl, rfl⟩)
