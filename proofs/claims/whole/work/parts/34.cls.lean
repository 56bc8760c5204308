def spGoes (a : aS) (x : Int32) : Int32 × aS := bif inb x (aNp (sT a)) then (bif (nCo (sN a)).testBit x.toNatClampNeg then (nI (pop (nCo (sN a) &&& (63 ^^^ 2 ^ x.toNatClampNeg))), uDo a (nCo (sN a) &&& (63 ^^^ 2 ^ x.toNatClampNeg), nYa (sN a), nCl (sN a))) else (-2, a)) else (-1, a)
theorem c_goes (S : zS) (d : Nat) (sw : Bool) (c : cS) (hm : List zC) {a : aS} (hA : AWf a) (hR : CRel c a) (x : Int32) : ∃ c', Ex S (d + 3) 0 0 45 [.ref 0, .int x] (hC sw c, hm) (some (.int (spGoes a x).1)) (hC sw c', hm) ∧ CRel c' (spGoes a x).2 := by
  have hnp := hA.1.2.2.2.2.1
  have hst := c_hasOne S (d + 1) sw c hm hR.1.2.2.2.1 x
  have hco := nCo_lt hA.1 hA.2.1
  obtain ⟨hk10, -⟩ := hA.2.2.2.1
  have hkn := hR.2.2.2.1.1
  have hcm := hR.2.1.1
  unfold spGoes
  cases hin : inb x (aNp (sT a)) with
  | false =>
    rw [hin] at hst
    refine ⟨c, ?_, hR⟩
    cases sw
    all_goals
      (refine exI rfl rfl ?_; intro X hX)
      repeat refine hX _ _ _ _ _ _ _ _ _ _ _ _ _ _ rfl ?_
      refine Or.inl ⟨_, _, hst, ?_⟩
      repeat refine hX _ _ _ _ _ _ _ _ _ _ _ _ _ _ rfl ?_
      refine br_f (show ¬ ¬ b2i false = 0 by decide) ?_
      repeat refine hX _ _ _ _ _ _ _ _ _ _ _ _ _ _ rfl ?_
      exact ⟨rfl, rfl⟩
  | true =>
    rw [hin] at hst
    obtain ⟨j, hj, rfl⟩ := inb_of hin (by omega)
    simp only [cond_true, nI_clamp (show j < 2 ^ 31 by omega)]
    have hhas := fun h => c_hasX S (d + 1) h hco (show j < 6 by omega)
    cases hb : (nCo (sN a)).testBit j with
    | true =>
      rw [hb] at hhas
      have hor : nI (nCo (sN a)) &&& ((1 <<< (nI j &&& 31)) ^^^ (-1)) = nI (nCo (sN a) &&& (63 ^^^ 2 ^ j)) := by rw [q_shl j (by omega), q_andn _ hco _ (q_p64 j (by omega))]
      have hl2 : nCo (sN a) &&& (63 ^^^ 2 ^ j) < 64 := q_and_lt hco
      have hadd := c_add S d sw (s_cSc c (s_nCome (cSc c) (nI (nCo (sN a) &&& (63 ^^^ 2 ^ j))))) hm hkn hk10 1 (nI j) 0
      have hbc := fun h => j_bcN S (d + 1) h hl2
      refine ⟨s_cPa (s_cSc c (s_nCome (cSc c) (nI (nCo (sN a) &&& (63 ^^^ 2 ^ j))))) (pAdd (cPa c) (sK a) 1 (nI j) 0), ?_, ⟨hR.1, ⟨rfl, hR.2.1.2⟩, hR.2.2.1, past_add hk10 hR.2.2.2.1 ⟨vp_in_nI (by omega) (by decide), fun n hn => ?_⟩, hR.2.2.2.2.1, hR.2.2.2.2.2.1, hR.2.2.2.2.2.2.1, hR.2.2.2.2.2.2.2.1, hR.2.2.2.2.2.2.2.2⟩⟩
      rotate_left
      · unfold tb
        rw [if_neg (by decide), if_pos rfl]
        refine ⟨?_, hn.2⟩
        show nCome n ||| (1 <<< (nI j &&& 31)) = nI (nCo (sN a))
        rw [show nCome n = nI (nCo (sN a) &&& (63 ^^^ 2 ^ j)) from hn.1, q_shl j (by omega), nI_or, q_clo _ hco j (by omega) hb]
      · cases sw
        all_goals
          (refine exI rfl rfl ?_; intro X hX)
          repeat refine hX _ _ _ _ _ _ _ _ _ _ _ _ _ _ rfl ?_
          refine Or.inl ⟨_, _, hst, ?_⟩
          repeat refine hX _ _ _ _ _ _ _ _ _ _ _ _ _ _ rfl ?_
          refine br_t (show ¬ b2i true = 0 by decide) ?_
          repeat refine hX _ _ _ _ _ _ _ _ _ _ _ _ _ _ rfl ?_
          rw [hcm]
          refine Or.inl ⟨_, _, hhas _, ?_⟩
          repeat refine hX _ _ _ _ _ _ _ _ _ _ _ _ _ _ rfl ?_
          refine br_t (show ¬ b2i true = 0 by decide) ?_
          repeat refine hX _ _ _ _ _ _ _ _ _ _ _ _ _ _ rfl ?_
          rw [hcm, hor]
          refine Or.inl ⟨_, _, hadd, ?_⟩
          repeat refine hX _ _ _ _ _ _ _ _ _ _ _ _ _ _ rfl ?_
          refine Or.inl ⟨_, _, hbc _, ?_⟩
          repeat refine hX _ _ _ _ _ _ _ _ _ _ _ _ _ _ rfl ?_
          exact ⟨rfl, rfl⟩
    | false =>
      rw [hb] at hhas
      refine ⟨c, ?_, hR⟩
      cases sw
      all_goals
        (refine exI rfl rfl ?_; intro X hX)
        repeat refine hX _ _ _ _ _ _ _ _ _ _ _ _ _ _ rfl ?_
        refine Or.inl ⟨_, _, hst, ?_⟩
        repeat refine hX _ _ _ _ _ _ _ _ _ _ _ _ _ _ rfl ?_
        refine br_t (show ¬ b2i true = 0 by decide) ?_
        repeat refine hX _ _ _ _ _ _ _ _ _ _ _ _ _ _ rfl ?_
        rw [hcm]
        refine Or.inl ⟨_, _, hhas _, ?_⟩
        repeat refine hX _ _ _ _ _ _ _ _ _ _ _ _ _ _ rfl ?_
        refine br_f (show ¬ ¬ b2i false = 0 by decide) ?_
        repeat refine hX _ _ _ _ _ _ _ _ _ _ _ _ _ _ rfl ?_
        exact ⟨rfl, rfl⟩
theorem nmask_or1 {n p : Nat} (hp : p < n) {b b' : Nat → Bool} (h : ∀ q, q < n → b' q = (b q || decide (q = p))) : nmask n b ||| 2 ^ p = nmask n b' := by
  apply Nat.eq_of_testBit_eq
  intro q
  rw [Nat.testBit_or, nmask_bit, nmask_bit, Nat.testBit_two_pow]
  by_cases hq : q < n
  · rw [h q hq]
    simp only [hq, decide_true, Bool.true_and]
    congr 1
    exact decide_eq_decide.mpr eq_comm
  · have : ¬ p = q := by omega
    simp [hq, this]
/-- what a claim makes of the claims -/
theorem cl_set {l : aF} {p s j : Nat} (q : Nat) : (aup l p (l p ||| 2 ^ s) q).testBit j = ((l q).testBit j || (decide (q = p) && decide (s = j))) := by
  by_cases hq : q = p
  · subst hq
    rw [aup_s, Nat.testBit_or, Nat.testBit_two_pow]
    simp
  · rw [aup_n _ _ hq]
    simp [hq]
def spClaims (a : aS) (x y : Int32) : Int32 × aS := bif inb x (aNp (sT a)) && inb y (aNs (sT a)) then (bif (aWr (sT a) (sN a) y.toNatClampNeg).testBit x.toNatClampNeg then (-2, a) else (if aCr (sT a) x.toNatClampNeg ≤ pop (nCl (sN a) x.toNatClampNeg) then (-3, a) else (nI (aPull (sT a) (nCo (sN a), nYa (sN a), aup (nCl (sN a)) x.toNatClampNeg (nCl (sN a) x.toNatClampNeg ||| 2 ^ y.toNatClampNeg)) y.toNatClampNeg), uDo a (nCo (sN a), nYa (sN a), aup (nCl (sN a)) x.toNatClampNeg (nCl (sN a) x.toNatClampNeg ||| 2 ^ y.toNatClampNeg))))) else (-1, a)
theorem claim_wf {A : aT} {N : aN} (hW : NWf A N) {p s : Nat} (hs : s < aNs A) : NWf A (nCo N, nYa N, aup (nCl N) p (nCl N p ||| 2 ^ s)) := by
  refine ⟨hW.1, hW.2.1, hW.2.2.1, fun q hq => ?_⟩
  show aup (nCl N) p (nCl N p ||| 2 ^ s) q < _
  by_cases h : q = p
  · subst h; rw [aup_s]; exact or_lt (hW.2.2.2 q hq) hs
  · rw [aup_n _ _ h]; exact hW.2.2.2 q hq
theorem claim_rel {A : aT} (hA : TWf A) {N : aN} {n : cN} (hN : NRel A n N) {p s : Nat} (hp : p < aNp A) (hs : s < aNs A) : NRel A (nCome n, nYardOf n, upd (nClaimed n) s (nClaimed n s ||| (1 <<< (nI p &&& 31)))) (nCo N, nYa N, aup (nCl N) p (nCl N p ||| 2 ^ s)) := by
  have hnp := hA.2.2.2.2.1
  have hns := hA.2.2.2.1
  refine ⟨hN.1, hN.2.1, fun j hj => ?_⟩
  show upd (nClaimed n) s (nClaimed n s ||| (1 <<< (nI p &&& 31))) j = nI (nmask (aNp A) (fun q => (aup (nCl N) p (nCl N p ||| 2 ^ s) q).testBit j))
  by_cases h : j = s
  · subst h
    rw [pk_us, hN.2.2 j hj, q_shl p (by omega), nI_or, nmask_or1 hp (b' := fun q => (aup (nCl N) p (nCl N p ||| 2 ^ j) q).testBit j) (fun q hq => by rw [cl_set]; simp)]
  · rw [pk_un h, hN.2.2 j hj]
    refine congrArg nI (nmask_congr _ fun q hq => ?_)
    rw [cl_set]
    simp [Ne.symm h]
theorem claim_undo {A : aT} (hA : TWf A) {N : aN} {p s : Nat} (hp : p < aNp A) (hs : s < aNs A) (hb : (nCl N p).testBit s = false) : DRel A 2 (nI s) (nI p) N (nCo N, nYa N, aup (nCl N) p (nCl N p ||| 2 ^ s)) := by
  have hnp := hA.2.2.2.2.1
  have hns := hA.2.2.2.1
  refine ⟨vp_in_nI (by omega) (by decide), fun n hn => ?_⟩
  unfold tb
  rw [if_neg (by decide), if_neg (by decide), if_pos rfl, nI_clamp (by omega)]
  refine ⟨hn.1, hn.2.1, fun j hj => ?_⟩
  show upd (nClaimed n) s (nClaimed n s &&& ((1 <<< (nI p &&& 31)) ^^^ (-1))) j = _
  have h6 : ∀ j, j < 6 → nClaimed n j = nI (nmask (aNp A) (fun q => (aup (nCl N) p (nCl N p ||| 2 ^ s) q).testBit j)) := hn.2.2
  by_cases h : j = s
  · subst h
    have hbm : (nmask (aNp A) (fun q => (nCl N q).testBit j)).testBit p = false := by rw [nmask_bit]; simp [hp, hb]
    rw [pk_us, h6 j hj, ← nmask_or1 hp (b := fun q => (nCl N q).testBit j) (fun q hq => by rw [cl_set]; simp), q_shl p (by omega), q_andn _ (q_or_lt _ (nmask_lt64 hnp _) _ (q_p64 p (by omega))) _ (q_p64 p (by omega)), q_orc _ (nmask_lt64 hnp _) p (by omega) hbm]
  · rw [pk_un h, h6 j hj]
    refine congrArg nI (nmask_congr _ fun q hq => ?_)
    rw [cl_set]
    simp [Ne.symm h]
theorem c_claims (S : zS) (d : Nat) (sw : Bool) (c : cS) (hm : List zC) {a : aS} (hA : AWf a) (hR : CRel c a) (x y : Int32) : ∃ c', Ex S (d + 4) 0 0 46 [.ref 0, .int x, .int y] (hC sw c, hm) (some (.int (spClaims a x y).1)) (hC sw c', hm) ∧ CRel c' (spClaims a x y).2 := by
  have hnp := hA.1.2.2.2.2.1
  have hns := hA.1.2.2.2.1
  have hst := c_hasOne S (d + 2) sw c hm hR.1.2.2.2.1 x
  have hst2 := c_hasStatue S (d + 2) sw c hm hR.1.2.2.1 y
  obtain ⟨hk10, -⟩ := hA.2.2.2.1
  have hkn := hR.2.2.2.1.1
  unfold spClaims
  cases hin : inb x (aNp (sT a)) with
  | false =>
    rw [hin] at hst
    refine ⟨c, ?_, hR⟩
    cases sw
    all_goals
      (refine exI rfl rfl ?_; intro X hX)
      repeat refine hX _ _ _ _ _ _ _ _ _ _ _ _ _ _ rfl ?_
      refine Or.inl ⟨_, _, hst, ?_⟩
      repeat refine hX _ _ _ _ _ _ _ _ _ _ _ _ _ _ rfl ?_
      refine br_t (show b2i false = 0 from rfl) ?_
      repeat refine hX _ _ _ _ _ _ _ _ _ _ _ _ _ _ rfl ?_
      exact ⟨rfl, rfl⟩
  | true =>
    rw [hin] at hst
    obtain ⟨p, hp, rfl⟩ := inb_of hin (by omega)
    cases hin2 : inb y (aNs (sT a)) with
    | false =>
      rw [hin2] at hst2
      refine ⟨c, ?_, hR⟩
      cases sw
      all_goals
        (refine exI rfl rfl ?_; intro X hX)
        repeat refine hX _ _ _ _ _ _ _ _ _ _ _ _ _ _ rfl ?_
        refine Or.inl ⟨_, _, hst, ?_⟩
        repeat refine hX _ _ _ _ _ _ _ _ _ _ _ _ _ _ rfl ?_
        refine br_f (show ¬ b2i true = 0 by decide) ?_
        repeat refine hX _ _ _ _ _ _ _ _ _ _ _ _ _ _ rfl ?_
        refine Or.inl ⟨_, _, hst2, ?_⟩
        repeat refine hX _ _ _ _ _ _ _ _ _ _ _ _ _ _ rfl ?_
        refine br_f (show ¬ ¬ b2i false = 0 by decide) ?_
        repeat refine hX _ _ _ _ _ _ _ _ _ _ _ _ _ _ rfl ?_
        exact ⟨rfl, rfl⟩
    | true =>
      rw [hin2] at hst2
      obtain ⟨s, hs, rfl⟩ := inb_of hin2 (by omega)
      simp only [cond_true, Bool.and_self, nI_clamp (show p < 2 ^ 31 by omega), nI_clamp (show s < 2 ^ 31 by omega)]
      have hwr := c_wr S (d + 2) sw c hm hA.1 hR.1 hR.2.1 hs
      have hwl := aWr_lt hA.1 (sN a) s
      have hhas := fun h => c_hasX S (d + 2) h hwl (show p < 6 by omega)
      cases hb : (aWr (sT a) (sN a) s).testBit p with
      | true =>
        rw [hb] at hhas
        refine ⟨c, ?_, hR⟩
        cases sw
        all_goals
          (refine exI rfl rfl ?_; intro X hX)
          repeat refine hX _ _ _ _ _ _ _ _ _ _ _ _ _ _ rfl ?_
          refine Or.inl ⟨_, _, hst, ?_⟩
          repeat refine hX _ _ _ _ _ _ _ _ _ _ _ _ _ _ rfl ?_
          refine br_f (show ¬ b2i true = 0 by decide) ?_
          repeat refine hX _ _ _ _ _ _ _ _ _ _ _ _ _ _ rfl ?_
          refine Or.inl ⟨_, _, hst2, ?_⟩
          repeat refine hX _ _ _ _ _ _ _ _ _ _ _ _ _ _ rfl ?_
          refine br_t (show ¬ b2i true = 0 by decide) ?_
          repeat refine hX _ _ _ _ _ _ _ _ _ _ _ _ _ _ rfl ?_
          refine Or.inl ⟨_, _, hwr, ?_⟩
          repeat refine hX _ _ _ _ _ _ _ _ _ _ _ _ _ _ rfl ?_
          refine Or.inl ⟨_, _, hhas _, ?_⟩
          repeat refine hX _ _ _ _ _ _ _ _ _ _ _ _ _ _ rfl ?_
          refine br_f (show ¬ b2i true = 0 by decide) ?_
          repeat refine hX _ _ _ _ _ _ _ _ _ _ _ _ _ _ rfl ?_
          exact ⟨rfl, rfl⟩
      | false =>
        rw [hb] at hhas
        have htb := c_timesB S (d + 1) sw c hm hA.1 hR.2.1 hp
        have hcr := (hR.1.2.2.2.2.2 p hp).2.2.1
        have hc3 := (hA.1.2.2.2.2.2.2 p hp).2.2.2.1
        have hpop : pop (nCl (sN a) p) ≤ 6 := by rw [← pop_cnt]; exact aCnt_le _ 6
        simp only [cond_false]
        by_cases hle : aCr (sT a) p ≤ pop (nCl (sN a) p)
        · rw [if_pos hle]
          refine ⟨c, ?_, hR⟩
          cases sw
          all_goals
            (refine exI rfl rfl ?_; intro X hX)
            repeat refine hX _ _ _ _ _ _ _ _ _ _ _ _ _ _ rfl ?_
            refine Or.inl ⟨_, _, hst, ?_⟩
            repeat refine hX _ _ _ _ _ _ _ _ _ _ _ _ _ _ rfl ?_
            refine br_f (show ¬ b2i true = 0 by decide) ?_
            repeat refine hX _ _ _ _ _ _ _ _ _ _ _ _ _ _ rfl ?_
            refine Or.inl ⟨_, _, hst2, ?_⟩
            repeat refine hX _ _ _ _ _ _ _ _ _ _ _ _ _ _ rfl ?_
            refine br_t (show ¬ b2i true = 0 by decide) ?_
            repeat refine hX _ _ _ _ _ _ _ _ _ _ _ _ _ _ rfl ?_
            refine Or.inl ⟨_, _, hwr, ?_⟩
            repeat refine hX _ _ _ _ _ _ _ _ _ _ _ _ _ _ rfl ?_
            refine Or.inl ⟨_, _, hhas _, ?_⟩
            repeat refine hX _ _ _ _ _ _ _ _ _ _ _ _ _ _ rfl ?_
            refine br_t (show b2i false = 0 from rfl) ?_
            repeat refine hX _ _ _ _ _ _ _ _ _ _ _ _ _ _ rfl ?_
            refine Or.inl ⟨_, _, htb, ?_⟩
            repeat refine hX _ _ _ _ _ _ _ _ _ _ _ _ _ _ rfl ?_
            refine ⟨vp_in_nI (by omega) (by decide), ?_⟩
            rw [nI_clamp (by omega)]
            rw [hcr]
            repeat refine hX _ _ _ _ _ _ _ _ _ _ _ _ _ _ rfl ?_
            refine br_f (show ¬ nI (pop (nCl (sN a) p)) < nI (aCr (sT a) p) from nI_nlt hle (by omega)) ?_
            repeat refine hX _ _ _ _ _ _ _ _ _ _ _ _ _ _ rfl ?_
            exact ⟨rfl, rfl⟩
        · rw [if_neg hle]
          have hbc : (nCl (sN a) p).testBit s = false := by
            unfold aWr at hb
            rw [nmask_bit] at hb
            simp only [hp, decide_true, Bool.true_and, Bool.or_eq_false_iff] at hb
            exact hb.2
          have hN' := claim_rel hA.1 hR.2.1 hp hs
          have hW' := claim_wf (p := p) hA.2.1 hs
          have hadd := c_add S (d + 1) sw (s_cSc c (nCome (cSc c), nYardOf (cSc c), upd (nClaimed (cSc c)) s (nClaimed (cSc c) s ||| (1 <<< (nI p &&& 31))))) hm hkn hk10 2 (nI s) (nI p)
          have hpu := c_pullAt S d sw (s_cPa (s_cSc c (nCome (cSc c), nYardOf (cSc c), upd (nClaimed (cSc c)) s (nClaimed (cSc c) s ||| (1 <<< (nI p &&& 31))))) (pAdd (cPa c) (sK a) 2 (nI s) (nI p))) hm hA.1 hR.1 hW' hN' hs
          refine ⟨s_cPa (s_cSc c (nCome (cSc c), nYardOf (cSc c), upd (nClaimed (cSc c)) s (nClaimed (cSc c) s ||| (1 <<< (nI p &&& 31))))) (pAdd (cPa c) (sK a) 2 (nI s) (nI p)), ?_, ⟨hR.1, hN', hR.2.2.1, past_add hk10 hR.2.2.2.1 (claim_undo hA.1 hp hs hbc), hR.2.2.2.2.1, hR.2.2.2.2.2.1, hR.2.2.2.2.2.2.1, hR.2.2.2.2.2.2.2.1, hR.2.2.2.2.2.2.2.2⟩⟩
          cases sw
          all_goals
            (refine exI rfl rfl ?_; intro X hX)
            repeat refine hX _ _ _ _ _ _ _ _ _ _ _ _ _ _ rfl ?_
            refine Or.inl ⟨_, _, hst, ?_⟩
            repeat refine hX _ _ _ _ _ _ _ _ _ _ _ _ _ _ rfl ?_
            refine br_f (show ¬ b2i true = 0 by decide) ?_
            repeat refine hX _ _ _ _ _ _ _ _ _ _ _ _ _ _ rfl ?_
            refine Or.inl ⟨_, _, hst2, ?_⟩
            repeat refine hX _ _ _ _ _ _ _ _ _ _ _ _ _ _ rfl ?_
            refine br_t (show ¬ b2i true = 0 by decide) ?_
            repeat refine hX _ _ _ _ _ _ _ _ _ _ _ _ _ _ rfl ?_
            refine Or.inl ⟨_, _, hwr, ?_⟩
            repeat refine hX _ _ _ _ _ _ _ _ _ _ _ _ _ _ rfl ?_
            refine Or.inl ⟨_, _, hhas _, ?_⟩
            repeat refine hX _ _ _ _ _ _ _ _ _ _ _ _ _ _ rfl ?_
            refine br_t (show b2i false = 0 from rfl) ?_
            repeat refine hX _ _ _ _ _ _ _ _ _ _ _ _ _ _ rfl ?_
            refine Or.inl ⟨_, _, htb, ?_⟩
            repeat refine hX _ _ _ _ _ _ _ _ _ _ _ _ _ _ rfl ?_
            refine ⟨vp_in_nI (by omega) (by decide), ?_⟩
            rw [nI_clamp (by omega)]
            rw [hcr]
            repeat refine hX _ _ _ _ _ _ _ _ _ _ _ _ _ _ rfl ?_
            refine br_t (show nI (pop (nCl (sN a) p)) < nI (aCr (sT a) p) from nI_lt (by omega) (by omega)) ?_
            repeat refine hX _ _ _ _ _ _ _ _ _ _ _ _ _ _ rfl ?_
            refine ⟨vp_in_nI (by omega) (by decide), ?_⟩
            rw [nI_clamp (by omega)]
            repeat refine hX _ _ _ _ _ _ _ _ _ _ _ _ _ _ rfl ?_
            refine ⟨vp_in_nI (by omega) (by decide), ?_⟩
            rw [nI_clamp (by omega)]
            repeat refine hX _ _ _ _ _ _ _ _ _ _ _ _ _ _ rfl ?_
            refine Or.inl ⟨_, _, hadd, ?_⟩
            repeat refine hX _ _ _ _ _ _ _ _ _ _ _ _ _ _ rfl ?_
            refine Or.inl ⟨_, _, hpu, ?_⟩
            repeat refine hX _ _ _ _ _ _ _ _ _ _ _ _ _ _ rfl ?_
            exact ⟨rfl, rfl⟩
