theorem gcd_half {r m : Nat} (h0 : 0 < m) (hm : m < r) : 2 * (r % m) < r := by
  have h1 := Nat.mod_lt r h0
  have h2 := Nat.mod_add_div r m
  have h3 : 1 ≤ r / m := Nat.div_pos (Nat.le_of_lt hm) h0
  have h4 : m * 1 ≤ m * (r / m) := Nat.mul_le_mul_left m h3
  omega
theorem c_gcd (S : zS) (d : Nat) (h : zH) {a b : Nat} (ha : a < 2 ^ 30) (hb : b < 2 ^ 30) : Ex S (d + 1) 0 0 89 [.int (nI a), .int (nI b)] h (some (.int (nI (Nat.gcd a b)))) h := by
  (refine exI rfl rfl ?_; intro X hX)
  have one : ∀ (g r st : Nat) (v : Option Value), (v = none ∨ ∃ z, v = some (.int z)) → g < 2 ^ 30 → r < 2 ^ 30 → 0 < r → st < 100 → X 7 [some (.int (nI a)), some (.int (nI b)), some (.int (nI r)), some (.int (nI (g % r))), some (.int (nI (st + 1))), some (.int (nI (g % r)))] [] h 0 0 → X 7 [some (.int (nI a)), some (.int (nI b)), some (.int (nI g)), some (.int (nI r)), some (.int (nI st)), v] [] h 0 0 := by
    intro g r st v hv hg hr h0 hst hk
    rcases hv with rfl | ⟨z, rfl⟩
    all_goals
      repeat refine hX _ _ _ _ _ _ _ _ _ _ _ _ _ _ rfl ?_
      refine br_f (show ¬ nI 100 ≤ nI st from nI_ge (by omega) (by decide)) ?_
      repeat refine hX _ _ _ _ _ _ _ _ _ _ _ _ _ _ rfl ?_
      refine br_f (show ¬ nI r ≤ 0 from nI_nle h0 (by omega)) ?_
      repeat refine hX _ _ _ _ _ _ _ _ _ _ _ _ _ _ rfl ?_
      refine ⟨nI_ne0 h0 (by omega), ?_⟩
      rw [pk_rem (by omega) h0 (by omega)]
      iterate 7 (refine hX _ _ _ _ _ _ _ _ _ _ _ _ _ _ rfl ?_)
      rw [nI_1]
      exact hk
  have fin : ∀ (g st : Nat) (v : Option Value), st < 100 → g = Nat.gcd a b → X 7 [some (.int (nI a)), some (.int (nI b)), some (.int (nI g)), some (.int (nI 0)), some (.int (nI st)), v] [] h 0 0 := by
    intro g st v hst hg
    repeat refine hX _ _ _ _ _ _ _ _ _ _ _ _ _ _ rfl ?_
    refine br_f (show ¬ nI 100 ≤ nI st from nI_ge (by omega) (by decide)) ?_
    repeat refine hX _ _ _ _ _ _ _ _ _ _ _ _ _ _ rfl ?_
    refine br_t (show nI 0 ≤ 0 by decide) ?_
    repeat refine hX _ _ _ _ _ _ _ _ _ _ _ _ _ _ rfl ?_
    exact ⟨by rw [hg], rfl⟩
  have loop : ∀ (k g r st : Nat) (v : Option Value), (v = none ∨ ∃ z, v = some (.int z)) → g < 2 ^ 30 → r < 2 ^ 30 → r < 2 ^ k → st + 2 * k < 100 → Nat.gcd g r = Nat.gcd a b → X 7 [some (.int (nI a)), some (.int (nI b)), some (.int (nI g)), some (.int (nI r)), some (.int (nI st)), v] [] h 0 0 := by
    intro k
    induction k with
    | zero =>
      intro g r st v hv hg hr hk hst he
      have : r = 0 := by omega
      subst this
      exact fin g st v (by omega) (by rw [← he, Nat.gcd_zero_right])
    | succ k ih =>
      intro g r st v hv hg hr hk hst he
      rcases Nat.eq_zero_or_pos r with h0 | h0
      · subst h0
        exact fin g st v (by omega) (by rw [← he, Nat.gcd_zero_right])
      · have hm := Nat.mod_lt g h0
        have e1 : Nat.gcd r (g % r) = Nat.gcd a b := by rw [← he, Nat.gcd_comm g r, Nat.gcd_rec r g, Nat.gcd_comm]
        refine one g r st v hv hg hr h0 (by omega) ?_
        rcases Nat.eq_zero_or_pos (g % r) with hm0 | hm0
        · rw [hm0] at e1 ⊢
          exact fin r (st + 1) _ (by omega) (by rw [← e1, Nat.gcd_zero_right])
        · have hh := gcd_half hm0 hm
          have hm2 := Nat.mod_lt r hm0
          have e2 : Nat.gcd (g % r) (r % (g % r)) = Nat.gcd a b := by rw [← e1, Nat.gcd_comm r (g % r), Nat.gcd_rec (g % r) r, Nat.gcd_comm]
          rw [Nat.pow_succ] at hk
          refine one r (g % r) (st + 1) _ (Or.inr ⟨_, rfl⟩) hr (by omega) hm0 (by omega) ?_
          exact ih (g % r) (r % (g % r)) (st + 1 + 1) _ (Or.inr ⟨_, rfl⟩) (by omega) (by omega) (by omega) (by omega) e2
  iterate 6 (refine hX _ _ _ _ _ _ _ _ _ _ _ _ _ _ rfl ?_)
  exact loop 30 a b 0 none (Or.inl rfl) ha hb hb (by omega) rfl
/-! odds -/
def aOdW (set x t : Nat) : Nat := bif aSub t set then (10 - x) ^ (pop t) * x ^ (pop (set &&& (63 ^^^ t))) else 0
set_option maxRecDepth 100000 in
theorem q_binom : ∀ set, set < 64 → ∀ x, x < 11 → aSumN (aOdW set x) 64 = 10 ^ pop set := by decide +kernel
def aOdT (A : aT) (j set x t : Nat) : Nat := bif decide (aWe A j ≤ aStr A t) then aOdW set x t else 0
theorem aSumN_le {f g : Nat → Nat} (h : ∀ k, f k ≤ g k) : ∀ n, aSumN f n ≤ aSumN g n
  | 0 => Nat.le_refl _
  | n + 1 => Nat.add_le_add (aSumN_le h n) (h n)
theorem aSumN_mono {f : Nat → Nat} (n : Nat) : ∀ k, aSumN f n ≤ aSumN f (n + k)
  | 0 => Nat.le_refl _
  | k + 1 => Nat.le_trans (aSumN_mono n k) (Nat.le_add_right _ _)
def aOdU (A : aT) (N : aN) (j x : Nat) : Nat := aSumN (aOdT A j (aWr A N j &&& nCo N) x) (2 ^ aNp A)
theorem aOdU_le {A : aT} (hA : TWf A) (N : aN) (j : Nat) {x : Nat} (hx : x < 11) : aOdU A N j x ≤ 10 ^ pop (aWr A N j &&& nCo N) := by
  rw [← q_binom _ (q_and_lt (aWr_lt hA N j)) x hx]
  refine Nat.le_trans (aSumN_le (g := aOdW (aWr A N j &&& nCo N) x) (fun k => ?_) _) ?_
  · unfold aOdT
    cases decide (aWe A j ≤ aStr A k) <;> simp
  · have h64 := pow_le64 hA.2.2.2.2.1
    have := aSumN_mono (f := aOdW (aWr A N j &&& nCo N) x) (2 ^ aNp A) (64 - 2 ^ aNp A)
    rwa [show 2 ^ aNp A + (64 - 2 ^ aNp A) = 64 by omega] at this
theorem q_ten : ∀ n, n < 7 → 10 ^ n ≤ 1000000 ∧ 0 < 10 ^ n := by decide
theorem pop_ten (x : Nat) : 10 ^ pop x ≤ 1000000 ∧ 0 < 10 ^ pop x := q_ten _ (Nat.lt_succ_of_le (pop_le x))
theorem c_chances (S : zS) (d : Nat) (sw : Bool) (c : cS) (hm : List zC) {A : aT} {N : aN} (hA : TWf A) (hT : TRel (cTo c) A) {j set x : Nat} (hj : j < aNs A) (hset : set < 64) (hx : x < 11) : Ex S (d + 3) 0 0 74 [.ref 0, .int (nI j), .int (nI set), .int (nI x)] (hC sw c, hm) (some (.int (nI (aSumN (aOdT A j set x) (2 ^ aNp A))))) (hC sw c, hm) := by
  have hns := hA.2.2.2.1
  have hnp := hA.2.2.2.2.1
  have h64 := pow_le64 hnp
  have hpe := hT.2.2.2.1
  have e2 := q_shl (aNp A) (by omega)
  have hstr := fun (z : Nat) (hz : z < 64) => c_strengthOf S d sw c hm hA hT hz
  have hwi := fun h (z : Nat) (hz : z < 64) => c_isWithin S (d + 1) h hz hset
  have hbc := fun h (z : Nat) (hz : z < 64) => j_bcN S (d + 1) h hz
  have hpw := fun h (b t : Nat) (ht : t < 1000) => c_power S (d + 1) h (b := b) ht
  have hwe := (hT.2.2.2.2.1 j hj).1
  have hw30 := (hA.2.2.2.2.2.1 j hj).2.1
  cases sw
  case false =>
    (refine exI rfl rfl ?_; intro X hX)
    have loop : ∀ (k i : Nat) (v : Option Value), i + k = 2 ^ aNp A → (v = none ∨ ∃ z, v = some (.int z)) → X 6 [some (.ref 0), some (.int (nI j)), some (.int (nI set)), some (.int (nI x)), some (.int (nI (aSumN (aOdT A j set x) i))), some (.int (nI i)), v] [] (hC false c, hm) 0 0 := by
      intro k
      induction k with
      | zero =>
        intro i v hi hv
        repeat refine hX _ _ _ _ _ _ _ _ _ _ _ _ _ _ rfl ?_
        rw [hpe, e2]
        refine br_t (show nI (2 ^ aNp A) ≤ nI i from nI_le (by omega) (by omega)) ?_
        repeat refine hX _ _ _ _ _ _ _ _ _ _ _ _ _ _ rfl ?_
        exact ⟨by rw [show i = 2 ^ aNp A by omega], rfl⟩
      | succ k ih =>
        intro i v hi hv
        have hsl := aStr_le hA i
        have hpo := pop_le i
        have hpo2 := pop_le (set &&& (63 ^^^ i))
        have h7 := fun v hv => ih (i + 1) v (by omega) hv
        rw [aSumN] at h7
        have h85 : ∀ v, (v = none ∨ ∃ z, v = some (.int z)) → aOdT A j set x i = 0 → X 85 [some (.ref 0), some (.int (nI j)), some (.int (nI set)), some (.int (nI x)), some (.int (nI (aSumN (aOdT A j set x) i))), some (.int (nI i)), v] [] (hC false c, hm) 0 0 := by
          intro v hv h0
          have h8 := h7 v hv
          rw [h0] at h8
          rcases hv with rfl | ⟨z, rfl⟩
          all_goals
            iterate 2 (refine hX _ _ _ _ _ _ _ _ _ _ _ _ _ _ rfl ?_)
            rw [nI_1]
            exact h8
        have hv0 := hv
        rcases hv with rfl | ⟨z, rfl⟩
        all_goals
          repeat refine hX _ _ _ _ _ _ _ _ _ _ _ _ _ _ rfl ?_
          rw [hpe, e2]
          refine br_f (show ¬ nI (2 ^ aNp A) ≤ nI i from nI_ge (by omega) (by omega)) ?_
          repeat refine hX _ _ _ _ _ _ _ _ _ _ _ _ _ _ rfl ?_
          refine Or.inl ⟨_, _, hwi _ i (by omega), ?_⟩
          repeat refine hX _ _ _ _ _ _ _ _ _ _ _ _ _ _ rfl ?_
          cases hsb : aSub i set with
          | false =>
            refine br_t (show b2i false = 0 from rfl) ?_
            exact h85 _ hv0 (by rw [aOdT, aOdW, hsb]; cases decide (aWe A j ≤ aStr A i) <;> rfl)
          | true =>
            refine br_f (show ¬ b2i true = 0 by decide) ?_
            repeat refine hX _ _ _ _ _ _ _ _ _ _ _ _ _ _ rfl ?_
            refine Or.inl ⟨_, _, hstr i (by omega), ?_⟩
            repeat refine hX _ _ _ _ _ _ _ _ _ _ _ _ _ _ rfl ?_
            refine ⟨vp_in_nI (by omega) (by decide), ?_⟩
            rw [nI_clamp (by omega)]
            rw [hwe]
            repeat refine hX _ _ _ _ _ _ _ _ _ _ _ _ _ _ rfl ?_
            by_cases hle : aWe A j ≤ aStr A i
            · refine br_f (show ¬ nI (aStr A i) < nI (aWe A j) from nI_nlt hle (by omega)) ?_
              have h8 := h7 (some (.int (nI (pop (set &&& (63 ^^^ i)))))) (Or.inr ⟨_, rfl⟩)
              rw [show aOdT A j set x i = (10 - x) ^ (pop i) * x ^ (pop (set &&& (63 ^^^ i))) by rw [aOdT, aOdW, hsb, decide_eq_true hle]; rfl] at h8
              iterate 6 (refine hX _ _ _ _ _ _ _ _ _ _ _ _ _ _ rfl ?_)
              rw [q_andn _ hset i (by omega)]
              refine Or.inl ⟨_, _, hbc _ _ (q_and_lt hset), ?_⟩
              iterate 6 (refine hX _ _ _ _ _ _ _ _ _ _ _ _ _ _ rfl ?_)
              rw [show (10 : Int32) - nI x = nI (10 - x) from pk_sub (a := 10) (by omega)]
              repeat refine hX _ _ _ _ _ _ _ _ _ _ _ _ _ _ rfl ?_
              refine Or.inl ⟨_, _, hbc _ i (by omega), ?_⟩
              repeat refine hX _ _ _ _ _ _ _ _ _ _ _ _ _ _ rfl ?_
              refine Or.inl ⟨_, _, hpw _ _ _ (by omega), ?_⟩
              repeat refine hX _ _ _ _ _ _ _ _ _ _ _ _ _ _ rfl ?_
              refine Or.inl ⟨_, _, hpw _ _ _ (by omega), ?_⟩
              iterate 5 (refine hX _ _ _ _ _ _ _ _ _ _ _ _ _ _ rfl ?_)
              rw [nI_1, pk_mul, nI_add]
              exact h8
            · refine br_t (show nI (aStr A i) < nI (aWe A j) from nI_lt (by omega) (by omega)) ?_
              exact h85 _ hv0 (by rw [aOdT, decide_eq_false hle]; rfl)
    iterate 4 (refine hX _ _ _ _ _ _ _ _ _ _ _ _ _ _ rfl ?_)
    exact loop (2 ^ aNp A) 0 none (by omega) (Or.inl rfl)
  case true =>
    (refine exI rfl rfl ?_; intro X hX)
    have loop : ∀ (k i : Nat) (v : Option Value), i + k = 2 ^ aNp A → (v = none ∨ ∃ z, v = some (.int z)) → X 6 [some (.ref 0), some (.int (nI j)), some (.int (nI set)), some (.int (nI x)), some (.int (nI (aSumN (aOdT A j set x) i))), some (.int (nI i)), v] [] (hC true c, hm) 0 0 := by
      intro k
      induction k with
      | zero =>
        intro i v hi hv
        repeat refine hX _ _ _ _ _ _ _ _ _ _ _ _ _ _ rfl ?_
        rw [hpe, e2]
        refine br_t (show nI (2 ^ aNp A) ≤ nI i from nI_le (by omega) (by omega)) ?_
        repeat refine hX _ _ _ _ _ _ _ _ _ _ _ _ _ _ rfl ?_
        exact ⟨by rw [show i = 2 ^ aNp A by omega], rfl⟩
      | succ k ih =>
        intro i v hi hv
        have hsl := aStr_le hA i
        have hpo := pop_le i
        have hpo2 := pop_le (set &&& (63 ^^^ i))
        have h7 := fun v hv => ih (i + 1) v (by omega) hv
        rw [aSumN] at h7
        have h85 : ∀ v, (v = none ∨ ∃ z, v = some (.int z)) → aOdT A j set x i = 0 → X 85 [some (.ref 0), some (.int (nI j)), some (.int (nI set)), some (.int (nI x)), some (.int (nI (aSumN (aOdT A j set x) i))), some (.int (nI i)), v] [] (hC true c, hm) 0 0 := by
          intro v hv h0
          have h8 := h7 v hv
          rw [h0] at h8
          rcases hv with rfl | ⟨z, rfl⟩
          all_goals
            iterate 2 (refine hX _ _ _ _ _ _ _ _ _ _ _ _ _ _ rfl ?_)
            rw [nI_1]
            exact h8
        have hv0 := hv
        rcases hv with rfl | ⟨z, rfl⟩
        all_goals
          repeat refine hX _ _ _ _ _ _ _ _ _ _ _ _ _ _ rfl ?_
          rw [hpe, e2]
          refine br_f (show ¬ nI (2 ^ aNp A) ≤ nI i from nI_ge (by omega) (by omega)) ?_
          repeat refine hX _ _ _ _ _ _ _ _ _ _ _ _ _ _ rfl ?_
          refine Or.inl ⟨_, _, hwi _ i (by omega), ?_⟩
          repeat refine hX _ _ _ _ _ _ _ _ _ _ _ _ _ _ rfl ?_
          cases hsb : aSub i set with
          | false =>
            refine br_t (show b2i false = 0 from rfl) ?_
            exact h85 _ hv0 (by rw [aOdT, aOdW, hsb]; cases decide (aWe A j ≤ aStr A i) <;> rfl)
          | true =>
            refine br_f (show ¬ b2i true = 0 by decide) ?_
            repeat refine hX _ _ _ _ _ _ _ _ _ _ _ _ _ _ rfl ?_
            refine Or.inl ⟨_, _, hstr i (by omega), ?_⟩
            repeat refine hX _ _ _ _ _ _ _ _ _ _ _ _ _ _ rfl ?_
            refine ⟨vp_in_nI (by omega) (by decide), ?_⟩
            rw [nI_clamp (by omega)]
            rw [hwe]
            repeat refine hX _ _ _ _ _ _ _ _ _ _ _ _ _ _ rfl ?_
            by_cases hle : aWe A j ≤ aStr A i
            · refine br_f (show ¬ nI (aStr A i) < nI (aWe A j) from nI_nlt hle (by omega)) ?_
              have h8 := h7 (some (.int (nI (pop (set &&& (63 ^^^ i)))))) (Or.inr ⟨_, rfl⟩)
              rw [show aOdT A j set x i = (10 - x) ^ (pop i) * x ^ (pop (set &&& (63 ^^^ i))) by rw [aOdT, aOdW, hsb, decide_eq_true hle]; rfl] at h8
              iterate 6 (refine hX _ _ _ _ _ _ _ _ _ _ _ _ _ _ rfl ?_)
              rw [q_andn _ hset i (by omega)]
              refine Or.inl ⟨_, _, hbc _ _ (q_and_lt hset), ?_⟩
              iterate 6 (refine hX _ _ _ _ _ _ _ _ _ _ _ _ _ _ rfl ?_)
              rw [show (10 : Int32) - nI x = nI (10 - x) from pk_sub (a := 10) (by omega)]
              repeat refine hX _ _ _ _ _ _ _ _ _ _ _ _ _ _ rfl ?_
              refine Or.inl ⟨_, _, hbc _ i (by omega), ?_⟩
              repeat refine hX _ _ _ _ _ _ _ _ _ _ _ _ _ _ rfl ?_
              refine Or.inl ⟨_, _, hpw _ _ _ (by omega), ?_⟩
              repeat refine hX _ _ _ _ _ _ _ _ _ _ _ _ _ _ rfl ?_
              refine Or.inl ⟨_, _, hpw _ _ _ (by omega), ?_⟩
              iterate 5 (refine hX _ _ _ _ _ _ _ _ _ _ _ _ _ _ rfl ?_)
              rw [nI_1, pk_mul, nI_add]
              exact h8
            · refine br_t (show nI (aStr A i) < nI (aWe A j) from nI_lt (by omega) (by omega)) ?_
              exact h85 _ hv0 (by rw [aOdT, decide_eq_false hle]; rfl)
    iterate 4 (refine hX _ _ _ _ _ _ _ _ _ _ _ _ _ _ rfl ?_)
    exact loop (2 ^ aNp A) 0 none (by omega) (Or.inl rfl)
def aOdds (u l : Nat) (w : Int32) : Int32 := if w = 0 then nI (u / Nat.gcd u l) else nI (l / Nat.gcd u l)
def spOdds (A : aT) (N : aN) (s x w : Int32) : Int32 := bif inb s (aNs A) && (inb x 11 && inb w 2) then aOdds (aOdU A N s.toNatClampNeg x.toNatClampNeg) (10 ^ pop (aWr A N s.toNatClampNeg &&& nCo N)) w else -1
theorem c_odds (S : zS) (d : Nat) (sw : Bool) (c : cS) (hm : List zC) {A : aT} {N : aN} (hA : TWf A) (hT : TRel (cTo c) A) (hW : NWf A N) (hN : NRel A (cSc c) N) (s x w : Int32) : Ex S (d + 4) 0 0 53 [.ref 0, .int s, .int x, .int w] (hC sw c, hm) (some (.int (spOdds A N s x w))) (hC sw c, hm) := by
  have hns := hA.2.2.2.1
  have hst := c_hasStatue S (d + 2) sw c hm hT.2.2.1 s
  unfold spOdds
  cases hin : inb s (aNs A) with
  | false =>
    rw [hin] at hst
    cases sw
    all_goals
      (refine exI rfl rfl ?_; intro X hX)
      repeat refine hX _ _ _ _ _ _ _ _ _ _ _ _ _ _ rfl ?_
      refine Or.inl ⟨_, _, hst, ?_⟩
      repeat refine hX _ _ _ _ _ _ _ _ _ _ _ _ _ _ rfl ?_
      refine br_t (show b2i false = 0 from rfl) ?_
      repeat refine hX _ _ _ _ _ _ _ _ _ _ _ _ _ _ rfl ?_
      exact ⟨rfl, rfl⟩
  | true =>
    rw [hin] at hst
    obtain ⟨j, hj, rfl⟩ := inb_of hin (by omega)
    cases hix : inb x 11 with
    | false =>
      have hno := inb_no hix
      cases sw
      all_goals
        (refine exI rfl rfl ?_; intro X hX)
        repeat refine hX _ _ _ _ _ _ _ _ _ _ _ _ _ _ rfl ?_
        refine Or.inl ⟨_, _, hst, ?_⟩
        repeat refine hX _ _ _ _ _ _ _ _ _ _ _ _ _ _ rfl ?_
        refine br_f (show ¬ b2i true = 0 by decide) ?_
        repeat refine hX _ _ _ _ _ _ _ _ _ _ _ _ _ _ rfl ?_
        rcases hno with h0 | ⟨h0, h1⟩
        · refine br_t (show x < 0 from h0) ?_
          repeat refine hX _ _ _ _ _ _ _ _ _ _ _ _ _ _ rfl ?_
          exact ⟨rfl, rfl⟩
        · refine br_f (show ¬ x < 0 from h0) ?_
          repeat refine hX _ _ _ _ _ _ _ _ _ _ _ _ _ _ rfl ?_
          refine br_t (show nI 10 < x from Int32.not_le.mp (le_no (by decide) h1)) ?_
          repeat refine hX _ _ _ _ _ _ _ _ _ _ _ _ _ _ rfl ?_
          exact ⟨rfl, rfl⟩
    | true =>
      obtain ⟨xx, hxx, rfl⟩ := inb_of hix (by decide)
      cases hiw : inb w 2 with
      | false =>
        have hno := inb_no hiw
        cases sw
        all_goals
          (refine exI rfl rfl ?_; intro X hX)
          repeat refine hX _ _ _ _ _ _ _ _ _ _ _ _ _ _ rfl ?_
          refine Or.inl ⟨_, _, hst, ?_⟩
          repeat refine hX _ _ _ _ _ _ _ _ _ _ _ _ _ _ rfl ?_
          refine br_f (show ¬ b2i true = 0 by decide) ?_
          repeat refine hX _ _ _ _ _ _ _ _ _ _ _ _ _ _ rfl ?_
          refine br_f (show ¬ nI xx < 0 from nI_pos (by omega)) ?_
          repeat refine hX _ _ _ _ _ _ _ _ _ _ _ _ _ _ rfl ?_
          refine br_f (show ¬ nI 10 < nI xx from nI_nlt (by omega) (by decide)) ?_
          repeat refine hX _ _ _ _ _ _ _ _ _ _ _ _ _ _ rfl ?_
          rcases hno with h0 | ⟨h0, h1⟩
          · refine br_t (show w < 0 from h0) ?_
            repeat refine hX _ _ _ _ _ _ _ _ _ _ _ _ _ _ rfl ?_
            exact ⟨rfl, rfl⟩
          · refine br_f (show ¬ w < 0 from h0) ?_
            repeat refine hX _ _ _ _ _ _ _ _ _ _ _ _ _ _ rfl ?_
            refine br_f (show ¬ w ≤ nI 1 from le_no (by decide) h1) ?_
            repeat refine hX _ _ _ _ _ _ _ _ _ _ _ _ _ _ rfl ?_
            exact ⟨rfl, rfl⟩
      | true =>
        obtain ⟨z, hz, rfl⟩ := inb_of hiw (by decide)
        simp only [cond_true, Bool.and_self, nI_clamp (show j < 2 ^ 31 by omega), nI_clamp (show xx < 2 ^ 31 by omega)]
        have hpu := c_pullersAt S (d + 1) sw c hm hA hT hW hN hj
        have hal : aWr A N j &&& nCo N < 64 := q_and_lt (aWr_lt hA N j)
        have hch := c_chances S d sw c hm (N := N) hA hT hj hal hxx
        have hule := aOdU_le hA N j hxx
        unfold aOdU at hule ⊢
        have htn := pop_ten (aWr A N j &&& nCo N)
        have hpo := pop_le (aWr A N j &&& nCo N)
        generalize aWr A N j &&& nCo N = all at *
        have hbc := fun h => j_bcN S (d + 2) h hal
        have hpw := fun h => c_power S (d + 2) h (b := 10) (t := pop all) (by omega)
        generalize aSumN (aOdT A j all xx) (2 ^ aNp A) = u at *
        generalize 10 ^ pop all = lw at *
        have hg := fun h => c_gcd S (d + 2) h (a := u) (b := lw) (by omega) (by omega)
        have hg0 : 0 < Nat.gcd u lw := Nat.gcd_pos_of_pos_right u htn.2
        have hgl : Nat.gcd u lw ≤ lw := Nat.gcd_le_right u htn.2
        unfold aOdds
        cases sw
        all_goals
          (refine exI rfl rfl ?_; intro X hX)
          repeat refine hX _ _ _ _ _ _ _ _ _ _ _ _ _ _ rfl ?_
          refine Or.inl ⟨_, _, hst, ?_⟩
          repeat refine hX _ _ _ _ _ _ _ _ _ _ _ _ _ _ rfl ?_
          refine br_f (show ¬ b2i true = 0 by decide) ?_
          repeat refine hX _ _ _ _ _ _ _ _ _ _ _ _ _ _ rfl ?_
          refine br_f (show ¬ nI xx < 0 from nI_pos (by omega)) ?_
          repeat refine hX _ _ _ _ _ _ _ _ _ _ _ _ _ _ rfl ?_
          refine br_f (show ¬ nI 10 < nI xx from nI_nlt (by omega) (by decide)) ?_
          repeat refine hX _ _ _ _ _ _ _ _ _ _ _ _ _ _ rfl ?_
          refine br_f (show ¬ nI z < 0 from nI_pos (by omega)) ?_
          repeat refine hX _ _ _ _ _ _ _ _ _ _ _ _ _ _ rfl ?_
          refine br_t (show nI z ≤ nI 1 from nI_le (by omega) (by decide)) ?_
          repeat refine hX _ _ _ _ _ _ _ _ _ _ _ _ _ _ rfl ?_
          refine Or.inl ⟨_, _, hpu, ?_⟩
          repeat refine hX _ _ _ _ _ _ _ _ _ _ _ _ _ _ rfl ?_
          refine Or.inl ⟨_, _, hch, ?_⟩
          repeat refine hX _ _ _ _ _ _ _ _ _ _ _ _ _ _ rfl ?_
          refine Or.inl ⟨_, _, hbc _, ?_⟩
          repeat refine hX _ _ _ _ _ _ _ _ _ _ _ _ _ _ rfl ?_
          refine Or.inl ⟨_, _, hpw _, ?_⟩
          repeat refine hX _ _ _ _ _ _ _ _ _ _ _ _ _ _ rfl ?_
          refine Or.inl ⟨_, _, hg _, ?_⟩
          repeat refine hX _ _ _ _ _ _ _ _ _ _ _ _ _ _ rfl ?_
          refine br_t (show ¬ nI (Nat.gcd u lw) = 0 from nI_ne0 hg0 (by omega)) ?_
          repeat refine hX _ _ _ _ _ _ _ _ _ _ _ _ _ _ rfl ?_
          by_cases h0 : nI z = 0
          · refine br_f (show ¬ ¬ nI z = 0 from fun h => h h0) ?_
            repeat refine hX _ _ _ _ _ _ _ _ _ _ _ _ _ _ rfl ?_
            refine ⟨nI_ne0 hg0 (by omega), ?_⟩
            repeat refine hX _ _ _ _ _ _ _ _ _ _ _ _ _ _ rfl ?_
            exact ⟨by rw [if_pos h0, pk_div (by omega) hg0 (by omega)], rfl⟩
          · refine br_t (show ¬ nI z = 0 from h0) ?_
            repeat refine hX _ _ _ _ _ _ _ _ _ _ _ _ _ _ rfl ?_
            refine ⟨nI_ne0 hg0 (by omega), ?_⟩
            repeat refine hX _ _ _ _ _ _ _ _ _ _ _ _ _ _ rfl ?_
            exact ⟨by rw [if_neg h0, pk_div (by omega) hg0 (by omega)], rfl⟩
