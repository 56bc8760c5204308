theorem c_isSide (S : zS) (d : Nat) (h : zH) (x : Int32) : Ex S (d + 1) 0 0 84 [.int x] h (some (.int (b2i (inb x 2)))) h := by
  cases hin : inb x 2 with
  | true =>
    obtain ⟨j, hj, rfl⟩ := inb_of hin (by decide)
    (refine exI rfl rfl ?_; intro X hX)
    repeat refine hX _ _ _ _ _ _ _ _ _ _ _ _ _ _ rfl ?_
    by_cases h0 : j = 0
    · subst h0
      refine br_t (show nI 0 = 0 from rfl) ?_
      repeat refine hX _ _ _ _ _ _ _ _ _ _ _ _ _ _ rfl ?_
      exact ⟨Or.inr rfl, rfl, rfl⟩
    · have : j = 1 := by omega
      subst this
      refine br_f (show ¬ nI 1 = 0 by decide) ?_
      repeat refine hX _ _ _ _ _ _ _ _ _ _ _ _ _ _ rfl ?_
      refine br_f (show ¬ ¬ nI 1 = 1 by decide) ?_
      repeat refine hX _ _ _ _ _ _ _ _ _ _ _ _ _ _ rfl ?_
      exact ⟨Or.inr rfl, rfl, rfl⟩
  | false =>
    have h0 : ¬ x = 0 := fun h => by rw [h] at hin; exact absurd hin (by decide)
    have h1 : ¬ x = 1 := fun h => by rw [h] at hin; exact absurd hin (by decide)
    (refine exI rfl rfl ?_; intro X hX)
    repeat refine hX _ _ _ _ _ _ _ _ _ _ _ _ _ _ rfl ?_
    refine br_f (show ¬ x = 0 from h0) ?_
    repeat refine hX _ _ _ _ _ _ _ _ _ _ _ _ _ _ rfl ?_
    refine br_t (show ¬ x = 1 from h1) ?_
    repeat refine hX _ _ _ _ _ _ _ _ _ _ _ _ _ _ rfl ?_
    exact ⟨Or.inl rfl, rfl, rfl⟩
theorem c_isImage (S : zS) (d : Nat) (h : zH) (x : Int32) : Ex S (d + 1) 0 0 86 [.int x] h (some (.int (b2i (inb x 2)))) h := by
  (refine exI rfl rfl ?_; intro X hX)
  repeat refine hX _ _ _ _ _ _ _ _ _ _ _ _ _ _ rfl ?_
  refine ⟨fun hc => ?_, fun hc => ?_⟩
  · have hc : x < 0 := hc
    repeat refine hX _ _ _ _ _ _ _ _ _ _ _ _ _ _ rfl ?_
    exact ⟨Or.inl rfl, by simp [inb, hc, b2i], rfl⟩
  · have hc : ¬ x < 0 := hc
    repeat refine hX _ _ _ _ _ _ _ _ _ _ _ _ _ _ rfl ?_
    refine ⟨fun h2 => ?_, fun h2 => ?_⟩
    · have h2 : ¬ x < nI 2 := Int32.not_lt.mpr h2
      repeat refine hX _ _ _ _ _ _ _ _ _ _ _ _ _ _ rfl ?_
      exact ⟨Or.inl rfl, by simp [inb, hc, h2, b2i], rfl⟩
    · have h2 : x < nI 2 := Int32.not_le.mp h2
      repeat refine hX _ _ _ _ _ _ _ _ _ _ _ _ _ _ rfl ?_
      exact ⟨Or.inr rfl, by simp [inb, hc, h2, b2i], rfl⟩
def aStep (x : Int32) : Int32 := if x = 1 then 1 else -1
theorem c_stepTo (S : zS) (d : Nat) (h : zH) (x : Int32) : Ex S (d + 1) 0 0 85 [.int x] h (some (.int (aStep x))) h := by
  (refine exI rfl rfl ?_; intro X hX)
  repeat refine hX _ _ _ _ _ _ _ _ _ _ _ _ _ _ rfl ?_
  refine ⟨fun hc => ?_, fun hc => ?_⟩
  · repeat refine hX _ _ _ _ _ _ _ _ _ _ _ _ _ _ rfl ?_
    exact ⟨by rw [aStep, if_neg (show ¬ x = 1 from hc)], rfl⟩
  · repeat refine hX _ _ _ _ _ _ _ _ _ _ _ _ _ _ rfl ?_
    exact ⟨by rw [aStep, if_pos (show x = 1 from Classical.not_not.mp hc)], rfl⟩
def aTo (a : aS) (s : Nat) (y : Int32) : Int32 := nI (nYa (sN a) s) + aStep y
def spPulls (a : aS) (x y : Int32) : Int32 × aS := bif inb x (aNs (sT a)) && inb y 2 then (bif aMov (sT a) (sN a) x.toNatClampNeg && (inb (aTo a x.toNatClampNeg y) (aNy (sT a)) && decide (aSin (sT a) (sN a) (aTo a x.toNatClampNeg y) = -9)) then (aTo a x.toNatClampNeg y, uDo a (nCo (sN a), aup (nYa (sN a)) x.toNatClampNeg (aTo a x.toNatClampNeg y).toNatClampNeg, nCl (sN a))) else (-2, a)) else (-1, a)
theorem pull_wf {A : aT} (hA : TWf A) {N : aN} (hW : NWf A N) {s t : Nat} (ht : t < aNy A) (hn : aSin A N (nI t) = -9) : NWf A (nCo N, aup (nYa N) s t, nCl N) := by
  have hns := hA.2.2.2.1
  have hny := hA.2.1
  have hne : ∀ k, k < aNs A → ¬ nYa N k = t := fun k hk h => aFst_none (aNs A) 0 (by omega) hn k (by omega) (by omega) (congrArg nI h)
  refine ⟨hW.1, fun j hj => ?_, fun j hj k hk h => ?_, hW.2.2.2⟩
  · show aup (nYa N) s t j < _
    by_cases h : j = s
    · rw [h, aup_s]; exact ht
    · rw [aup_n _ _ h]; exact hW.2.1 j hj
  · have h : aup (nYa N) s t j = aup (nYa N) s t k := h
    by_cases h1 : j = s
    · by_cases h2 : k = s
      · omega
      · rw [h1, aup_s, aup_n _ _ h2] at h
        exact absurd h.symm (hne k hk)
    · by_cases h2 : k = s
      · rw [h2, aup_s, aup_n _ _ h1] at h
        exact absurd h (hne j hj)
      · rw [aup_n _ _ h1, aup_n _ _ h2] at h
        exact hW.2.2.1 j hj k hk h
theorem c_pulls (S : zS) (d : Nat) (sw : Bool) (c : cS) (hm : List zC) {a : aS} (hA : AWf a) (hR : CRel c a) (x y : Int32) : ∃ c', Ex S (d + 5) 0 0 47 [.ref 0, .int x, .int y] (hC sw c, hm) (some (.int (spPulls a x y).1)) (hC sw c', hm) ∧ CRel c' (spPulls a x y).2 := by
  have hns := hA.1.2.2.2.1
  have hny := hA.1.2.1
  have hst := c_hasStatue S (d + 3) sw c hm hR.1.2.2.1 x
  have hsi := fun h => c_isSide S (d + 3) h y
  obtain ⟨hk10, -⟩ := hA.2.2.2.1
  have hkn := hR.2.2.2.1.1
  unfold spPulls
  cases hin : inb x (aNs (sT a)) with
  | false =>
    rw [hin] at hst
    refine ⟨c, ?_, hR⟩
    cases sw
    all_goals
      (refine exI rfl rfl ?_; intro X hX)
      repeat refine hX _ _ _ _ _ _ _ _ _ _ _ _ _ _ rfl ?_
      refine Or.inl ⟨_, _, hst, ?_⟩
      repeat refine hX _ _ _ _ _ _ _ _ _ _ _ _ _ _ rfl ?_
      refine br_t (show b2i false = 0 from rfl) ?_
      repeat refine hX _ _ _ _ _ _ _ _ _ _ _ _ _ _ rfl ?_
      exact ⟨rfl, rfl⟩
  | true =>
    rw [hin] at hst
    obtain ⟨s, hs, rfl⟩ := inb_of hin (by omega)
    cases hin2 : inb y 2 with
    | false =>
      rw [hin2] at hsi
      refine ⟨c, ?_, hR⟩
      cases sw
      all_goals
        (refine exI rfl rfl ?_; intro X hX)
        repeat refine hX _ _ _ _ _ _ _ _ _ _ _ _ _ _ rfl ?_
        refine Or.inl ⟨_, _, hst, ?_⟩
        repeat refine hX _ _ _ _ _ _ _ _ _ _ _ _ _ _ rfl ?_
        refine br_f (show ¬ b2i true = 0 by decide) ?_
        repeat refine hX _ _ _ _ _ _ _ _ _ _ _ _ _ _ rfl ?_
        refine Or.inl ⟨_, _, hsi _, ?_⟩
        repeat refine hX _ _ _ _ _ _ _ _ _ _ _ _ _ _ rfl ?_
        refine br_f (show ¬ ¬ b2i false = 0 by decide) ?_
        repeat refine hX _ _ _ _ _ _ _ _ _ _ _ _ _ _ rfl ?_
        exact ⟨rfl, rfl⟩
    | true =>
      rw [hin2] at hsi
      simp only [cond_true, Bool.and_self, nI_clamp (show s < 2 ^ 31 by omega)]
      have hsp := fun h => c_stepTo S (d + 3) h y
      have hmo := c_moves S d sw c hm hA.1 hR.1 hA.2.1 hR.2.1 hs
      have hya := c_hasYard S (d + 3) sw c hm hR.1.1 (aTo a s y)
      have hsn := c_statueIn S (d + 3) sw c hm hA.1 hR.1 hR.2.1 (aTo a s y)
      have hyf := hR.2.1.2.1 s hs
      cases hmv : aMov (sT a) (sN a) s with
      | false =>
        rw [hmv] at hmo
        refine ⟨c, ?_, hR⟩
        cases sw
        all_goals
          (refine exI rfl rfl ?_; intro X hX)
          repeat refine hX _ _ _ _ _ _ _ _ _ _ _ _ _ _ rfl ?_
          refine Or.inl ⟨_, _, hst, ?_⟩
          repeat refine hX _ _ _ _ _ _ _ _ _ _ _ _ _ _ rfl ?_
          refine br_f (show ¬ b2i true = 0 by decide) ?_
          repeat refine hX _ _ _ _ _ _ _ _ _ _ _ _ _ _ rfl ?_
          refine Or.inl ⟨_, _, hsi _, ?_⟩
          repeat refine hX _ _ _ _ _ _ _ _ _ _ _ _ _ _ rfl ?_
          refine br_t (show ¬ b2i true = 0 by decide) ?_
          repeat refine hX _ _ _ _ _ _ _ _ _ _ _ _ _ _ rfl ?_
          refine ⟨vp_in_nI (by omega) (by decide), ?_⟩
          rw [nI_clamp (by omega)]
          rw [hyf]
          repeat refine hX _ _ _ _ _ _ _ _ _ _ _ _ _ _ rfl ?_
          refine Or.inl ⟨_, _, hsp _, ?_⟩
          repeat refine hX _ _ _ _ _ _ _ _ _ _ _ _ _ _ rfl ?_
          refine Or.inl ⟨_, _, hmo, ?_⟩
          repeat refine hX _ _ _ _ _ _ _ _ _ _ _ _ _ _ rfl ?_
          refine br_t (show b2i false = 0 from rfl) ?_
          repeat refine hX _ _ _ _ _ _ _ _ _ _ _ _ _ _ rfl ?_
          exact ⟨rfl, rfl⟩
      | true =>
        rw [hmv] at hmo
        cases hiy : inb (aTo a s y) (aNy (sT a)) with
        | false =>
          rw [hiy] at hya
          refine ⟨c, ?_, hR⟩
          cases sw
          all_goals
            (refine exI rfl rfl ?_; intro X hX)
            repeat refine hX _ _ _ _ _ _ _ _ _ _ _ _ _ _ rfl ?_
            refine Or.inl ⟨_, _, hst, ?_⟩
            repeat refine hX _ _ _ _ _ _ _ _ _ _ _ _ _ _ rfl ?_
            refine br_f (show ¬ b2i true = 0 by decide) ?_
            repeat refine hX _ _ _ _ _ _ _ _ _ _ _ _ _ _ rfl ?_
            refine Or.inl ⟨_, _, hsi _, ?_⟩
            repeat refine hX _ _ _ _ _ _ _ _ _ _ _ _ _ _ rfl ?_
            refine br_t (show ¬ b2i true = 0 by decide) ?_
            repeat refine hX _ _ _ _ _ _ _ _ _ _ _ _ _ _ rfl ?_
            refine ⟨vp_in_nI (by omega) (by decide), ?_⟩
            rw [nI_clamp (by omega)]
            rw [hyf]
            repeat refine hX _ _ _ _ _ _ _ _ _ _ _ _ _ _ rfl ?_
            refine Or.inl ⟨_, _, hsp _, ?_⟩
            repeat refine hX _ _ _ _ _ _ _ _ _ _ _ _ _ _ rfl ?_
            refine Or.inl ⟨_, _, hmo, ?_⟩
            repeat refine hX _ _ _ _ _ _ _ _ _ _ _ _ _ _ rfl ?_
            refine br_f (show ¬ b2i true = 0 by decide) ?_
            repeat refine hX _ _ _ _ _ _ _ _ _ _ _ _ _ _ rfl ?_
            refine Or.inl ⟨_, _, hya, ?_⟩
            repeat refine hX _ _ _ _ _ _ _ _ _ _ _ _ _ _ rfl ?_
            refine br_t (show b2i false = 0 from rfl) ?_
            repeat refine hX _ _ _ _ _ _ _ _ _ _ _ _ _ _ rfl ?_
            exact ⟨rfl, rfl⟩
        | true =>
          rw [hiy] at hya
          by_cases h9 : aSin (sT a) (sN a) (aTo a s y) = -9
          · obtain ⟨t, ht, hto⟩ := inb_of hiy (by omega)
            rw [decide_eq_true h9]
            simp only [Bool.and_self, cond_true]
            have hadd := c_add S (d + 2) sw (s_cSc c (nCome (cSc c), upd (nYardOf (cSc c)) s (aTo a s y), nClaimed (cSc c))) hm hkn hk10 3 (nI s) (nI (nYa (sN a) s))
            refine ⟨s_cPa (s_cSc c (nCome (cSc c), upd (nYardOf (cSc c)) s (aTo a s y), nClaimed (cSc c))) (pAdd (cPa c) (sK a) 3 (nI s) (nI (nYa (sN a) s))), ?_, ⟨hR.1, ⟨hR.2.1.1, fun j hj => ?_, hR.2.1.2.2⟩, hR.2.2.1, past_add hk10 hR.2.2.2.1 ⟨vp_in_nI (by omega) (by decide), fun n hn => ?_⟩, hR.2.2.2.2.1, hR.2.2.2.2.2.1, hR.2.2.2.2.2.2.1, hR.2.2.2.2.2.2.2.1, hR.2.2.2.2.2.2.2.2⟩⟩
            rotate_left
            · show upd (nYardOf (cSc c)) s (aTo a s y) j = nI (aup (nYa (sN a)) s (aTo a s y).toNatClampNeg j)
              rw [hto, nI_clamp (by omega)]
              by_cases h : j = s
              · rw [h, pk_us, aup_s]
              · rw [pk_un h, aup_n _ _ h]; exact hR.2.1.2.1 j hj
            · unfold tb
              rw [if_neg (by decide), if_neg (by decide), if_neg (by decide), nI_clamp (by omega)]
              refine ⟨hn.1, fun j hj => ?_, hn.2.2⟩
              show upd (nYardOf n) s (nI (nYa (sN a) s)) j = nI (nYa (sN a) j)
              by_cases h : j = s
              · rw [h, pk_us]
              · rw [pk_un h]
                have := hn.2.1 j hj
                rw [this]
                show nI (aup (nYa (sN a)) s _ j) = _
                rw [aup_n _ _ h]
            · cases sw
              all_goals
                (refine exI rfl rfl ?_; intro X hX)
                repeat refine hX _ _ _ _ _ _ _ _ _ _ _ _ _ _ rfl ?_
                refine Or.inl ⟨_, _, hst, ?_⟩
                repeat refine hX _ _ _ _ _ _ _ _ _ _ _ _ _ _ rfl ?_
                refine br_f (show ¬ b2i true = 0 by decide) ?_
                repeat refine hX _ _ _ _ _ _ _ _ _ _ _ _ _ _ rfl ?_
                refine Or.inl ⟨_, _, hsi _, ?_⟩
                repeat refine hX _ _ _ _ _ _ _ _ _ _ _ _ _ _ rfl ?_
                refine br_t (show ¬ b2i true = 0 by decide) ?_
                repeat refine hX _ _ _ _ _ _ _ _ _ _ _ _ _ _ rfl ?_
                refine ⟨vp_in_nI (by omega) (by decide), ?_⟩
                rw [nI_clamp (by omega)]
                rw [hyf]
                repeat refine hX _ _ _ _ _ _ _ _ _ _ _ _ _ _ rfl ?_
                refine Or.inl ⟨_, _, hsp _, ?_⟩
                repeat refine hX _ _ _ _ _ _ _ _ _ _ _ _ _ _ rfl ?_
                refine Or.inl ⟨_, _, hmo, ?_⟩
                repeat refine hX _ _ _ _ _ _ _ _ _ _ _ _ _ _ rfl ?_
                refine br_f (show ¬ b2i true = 0 by decide) ?_
                repeat refine hX _ _ _ _ _ _ _ _ _ _ _ _ _ _ rfl ?_
                refine Or.inl ⟨_, _, hya, ?_⟩
                repeat refine hX _ _ _ _ _ _ _ _ _ _ _ _ _ _ rfl ?_
                refine br_f (show ¬ b2i true = 0 by decide) ?_
                repeat refine hX _ _ _ _ _ _ _ _ _ _ _ _ _ _ rfl ?_
                refine Or.inl ⟨_, _, hsn, ?_⟩
                repeat refine hX _ _ _ _ _ _ _ _ _ _ _ _ _ _ rfl ?_
                refine br_t (show aSin (sT a) (sN a) (aTo a s y) = -9 from h9) ?_
                repeat refine hX _ _ _ _ _ _ _ _ _ _ _ _ _ _ rfl ?_
                refine ⟨vp_in_nI (by omega) (by decide), ?_⟩
                rw [nI_clamp (by omega)]
                repeat refine hX _ _ _ _ _ _ _ _ _ _ _ _ _ _ rfl ?_
                refine Or.inl ⟨_, _, hadd, ?_⟩
                repeat refine hX _ _ _ _ _ _ _ _ _ _ _ _ _ _ rfl ?_
                exact ⟨rfl, rfl⟩
          · rw [decide_eq_false h9]
            refine ⟨c, ?_, hR⟩
            cases sw
            all_goals
              (refine exI rfl rfl ?_; intro X hX)
              repeat refine hX _ _ _ _ _ _ _ _ _ _ _ _ _ _ rfl ?_
              refine Or.inl ⟨_, _, hst, ?_⟩
              repeat refine hX _ _ _ _ _ _ _ _ _ _ _ _ _ _ rfl ?_
              refine br_f (show ¬ b2i true = 0 by decide) ?_
              repeat refine hX _ _ _ _ _ _ _ _ _ _ _ _ _ _ rfl ?_
              refine Or.inl ⟨_, _, hsi _, ?_⟩
              repeat refine hX _ _ _ _ _ _ _ _ _ _ _ _ _ _ rfl ?_
              refine br_t (show ¬ b2i true = 0 by decide) ?_
              repeat refine hX _ _ _ _ _ _ _ _ _ _ _ _ _ _ rfl ?_
              refine ⟨vp_in_nI (by omega) (by decide), ?_⟩
              rw [nI_clamp (by omega)]
              rw [hyf]
              repeat refine hX _ _ _ _ _ _ _ _ _ _ _ _ _ _ rfl ?_
              refine Or.inl ⟨_, _, hsp _, ?_⟩
              repeat refine hX _ _ _ _ _ _ _ _ _ _ _ _ _ _ rfl ?_
              refine Or.inl ⟨_, _, hmo, ?_⟩
              repeat refine hX _ _ _ _ _ _ _ _ _ _ _ _ _ _ rfl ?_
              refine br_f (show ¬ b2i true = 0 by decide) ?_
              repeat refine hX _ _ _ _ _ _ _ _ _ _ _ _ _ _ rfl ?_
              refine Or.inl ⟨_, _, hya, ?_⟩
              repeat refine hX _ _ _ _ _ _ _ _ _ _ _ _ _ _ rfl ?_
              refine br_f (show ¬ b2i true = 0 by decide) ?_
              repeat refine hX _ _ _ _ _ _ _ _ _ _ _ _ _ _ rfl ?_
              refine Or.inl ⟨_, _, hsn, ?_⟩
              repeat refine hX _ _ _ _ _ _ _ _ _ _ _ _ _ _ rfl ?_
              refine br_f (show ¬ aSin (sT a) (sN a) (aTo a s y) = -9 from h9) ?_
              repeat refine hX _ _ _ _ _ _ _ _ _ _ _ _ _ _ rfl ?_
              exact ⟨rfl, rfl⟩
def spUndo (a : aS) : Int32 × aS := if sK a = 0 then (-2, a) else (nI (sK a - 1), uNow a (sH a (sK a - 1)) (sK a - 1) (sH a))
theorem c_undo (S : zS) (d : Nat) (sw : Bool) (c : cS) (hm : List zC) {a : aS} (hA : AWf a) (hR : CRel c a) : ∃ c', Ex S (d + 2) 0 0 48 [.ref 0] (hC sw c, hm) (some (.int (spUndo a).1)) (hC sw c', hm) ∧ CRel c' (spUndo a).2 := by
  obtain ⟨hk10, -⟩ := hA.2.2.2.1
  obtain ⟨hkn, hdr⟩ := hR.2.2.2.1
  unfold spUndo
  by_cases h0 : sK a = 0
  · rw [if_pos h0]
    refine ⟨c, ?_, hR⟩
    rw [h0] at hkn
    cases sw
    all_goals
      (refine exI rfl rfl ?_; intro X hX)
      repeat refine hX _ _ _ _ _ _ _ _ _ _ _ _ _ _ rfl ?_
      rw [hkn]
      refine br_f (show ¬ ¬ nI 0 = 0 by decide) ?_
      repeat refine hX _ _ _ _ _ _ _ _ _ _ _ _ _ _ rfl ?_
      exact ⟨rfl, rfl⟩
  · rw [if_neg h0]
    obtain ⟨k, hk⟩ : ∃ k, sK a = k + 1 := ⟨sK a - 1, by omega⟩
    rw [hk] at hkn
    rw [show sK a - 1 = k by omega]
    obtain ⟨hth, hlast⟩ := hdr k (by omega)
    have htb := c_takeBack S d sw c hm hkn (by omega) hth
    have hxk : hx a (k + 1) = sN a := by unfold hx; rw [if_neg (by omega)]
    have hxk2 : hx a k = sH a k := by unfold hx; rw [if_pos (by omega)]
    rw [hxk, hxk2] at hlast
    refine ⟨s_cSc (s_cPa c (s_pKnown (cPa c) (nI k))) (tb (pDeed (cPa c) k) (pThing (cPa c) k) (pDetail (cPa c) k) (cSc c)), ?_, ⟨hR.1, hlast _ hR.2.1, hR.2.2.1, ⟨rfl, fun j hj => ?_⟩, hR.2.2.2.2.1, hR.2.2.2.2.2.1, hR.2.2.2.2.2.2.1, hR.2.2.2.2.2.2.2.1, hR.2.2.2.2.2.2.2.2⟩⟩
    rotate_left
    · have hj : j < k := hj
      have h1 : ∀ i, i ≤ k → hx (uNow a (sH a k) k (sH a)) i = hx a i := fun i hi => by
        unfold hx
        show (if i < k then sH a i else sH a k) = _
        rw [if_pos (show i < sK a by omega)]
        by_cases h : i < k
        · rw [if_pos h]
        · rw [if_neg h, show i = k by omega]
      rw [h1 j (by omega), h1 (j + 1) (by omega)]
      exact hdr j (by omega)
    · cases sw
      all_goals
        (refine exI rfl rfl ?_; intro X hX)
        repeat refine hX _ _ _ _ _ _ _ _ _ _ _ _ _ _ rfl ?_
        rw [hkn]
        refine br_t (show ¬ nI (k + 1) = 0 from nI_ne0 (by omega) (by omega)) ?_
        repeat refine hX _ _ _ _ _ _ _ _ _ _ _ _ _ _ rfl ?_
        refine Or.inl ⟨_, _, htb, ?_⟩
        repeat refine hX _ _ _ _ _ _ _ _ _ _ _ _ _ _ rfl ?_
        exact ⟨rfl, rfl⟩
def spKeep (a : aS) (x : Int32) : Int32 × aS := bif inb x 2 then (nI (pop (nCo (sN a))), uImg a (aup (sKe a) x.toNatClampNeg true) (aup (sIm a) x.toNatClampNeg (sN a))) else (-1, a)
theorem c_keep (S : zS) (d : Nat) (sw : Bool) (c : cS) (hm : List zC) {a : aS} (hA : AWf a) (hR : CRel c a) (x : Int32) : ∃ c', Ex S (d + 2) 0 0 59 [.ref 0, .int x] (hC sw c, hm) (some (.int (spKeep a x).1)) (hC sw c', hm) ∧ CRel c' (spKeep a x).2 := by
  have him := fun h => c_isImage S d h x
  have hbc := fun h => j_bcN S d h (nCo_lt hA.1 hA.2.1)
  have hcm := hR.2.1.1
  have hke := hR.2.2.2.2.1
  unfold spKeep
  cases hin : inb x 2 with
  | false =>
    rw [hin] at him
    refine ⟨c, ?_, hR⟩
    cases sw
    all_goals
      (refine exI rfl rfl ?_; intro X hX)
      repeat refine hX _ _ _ _ _ _ _ _ _ _ _ _ _ _ rfl ?_
      refine Or.inl ⟨_, _, him _, ?_⟩
      repeat refine hX _ _ _ _ _ _ _ _ _ _ _ _ _ _ rfl ?_
      refine br_f (show ¬ ¬ b2i false = 0 by decide) ?_
      repeat refine hX _ _ _ _ _ _ _ _ _ _ _ _ _ _ rfl ?_
      exact ⟨rfl, rfl⟩
  | true =>
    rw [hin] at him
    obtain ⟨j, hj, rfl⟩ := inb_of hin (by decide)
    simp only [cond_true, nI_clamp (show j < 2 ^ 31 by omega)]
    have hkk : ∀ i, i < 2 → upd (cKept c) j 1 i = b2i (aup (sKe a) j true i) := fun i hi => by
      by_cases h : i = j
      · rw [h, pk_us, aup_s]; rfl
      · rw [pk_un h, aup_n _ _ h]; exact hke i hi
    by_cases h0 : j = 0
    · subst h0
      have hcp := c_copy_k0 S d sw c hm
      refine ⟨s_cKept (s_cI0 c (cpN (cSc c) (cI0 c))) (upd (cKept c) 0 1), ?_, ⟨hR.1, hR.2.1, hR.2.2.1, hR.2.2.2.1, hkk, fun _ => ?_, fun h => ?_, hR.2.2.2.2.2.2.2.1, hR.2.2.2.2.2.2.2.2⟩⟩
      rotate_left
      · show NRel (sT a) (cpN (cSc c) (cI0 c)) (aup (sIm a) 0 (sN a) 0)
        rw [aup_s]
        exact cpN_rel hA.1 _ hR.2.1
      · show NRel (sT a) (cI1 c) (aup (sIm a) 0 (sN a) 1)
        rw [aup_n _ _ (by decide)]
        have h : aup (sKe a) 0 true 1 = true := h
        rw [aup_n _ _ (by decide)] at h
        exact hR.2.2.2.2.2.2.1 h
      · cases sw
        all_goals
          (refine exI rfl rfl ?_; intro X hX)
          repeat refine hX _ _ _ _ _ _ _ _ _ _ _ _ _ _ rfl ?_
          refine Or.inl ⟨_, _, him _, ?_⟩
          repeat refine hX _ _ _ _ _ _ _ _ _ _ _ _ _ _ rfl ?_
          refine br_t (show ¬ b2i true = 0 by decide) ?_
          repeat refine hX _ _ _ _ _ _ _ _ _ _ _ _ _ _ rfl ?_
          refine ⟨by unfold vp_in; decide, 29, rfl, ?_⟩
          repeat refine hX _ _ _ _ _ _ _ _ _ _ _ _ _ _ rfl ?_
          refine Or.inl ⟨_, _, hcp, ?_⟩
          repeat refine hX _ _ _ _ _ _ _ _ _ _ _ _ _ _ rfl ?_
          refine ⟨by unfold vp_in; decide, Or.inr rfl, ?_⟩
          repeat refine hX _ _ _ _ _ _ _ _ _ _ _ _ _ _ rfl ?_
          rw [hcm]
          refine Or.inl ⟨_, _, hbc _, ?_⟩
          repeat refine hX _ _ _ _ _ _ _ _ _ _ _ _ _ _ rfl ?_
          exact ⟨rfl, rfl⟩
    · have : j = 1 := by omega
      subst this
      have hcp := c_copy_k1 S d sw c hm
      refine ⟨s_cKept (s_cI1 c (cpN (cSc c) (cI1 c))) (upd (cKept c) 1 1), ?_, ⟨hR.1, hR.2.1, hR.2.2.1, hR.2.2.2.1, hkk, fun h => ?_, fun _ => ?_, hR.2.2.2.2.2.2.2.1, hR.2.2.2.2.2.2.2.2⟩⟩
      rotate_left
      · show NRel (sT a) (cI0 c) (aup (sIm a) 1 (sN a) 0)
        rw [aup_n _ _ (by decide)]
        have h : aup (sKe a) 1 true 0 = true := h
        rw [aup_n _ _ (by decide)] at h
        exact hR.2.2.2.2.2.1 h
      · show NRel (sT a) (cpN (cSc c) (cI1 c)) (aup (sIm a) 1 (sN a) 1)
        rw [aup_s]
        exact cpN_rel hA.1 _ hR.2.1
      · cases sw
        all_goals
          (refine exI rfl rfl ?_; intro X hX)
          repeat refine hX _ _ _ _ _ _ _ _ _ _ _ _ _ _ rfl ?_
          refine Or.inl ⟨_, _, him _, ?_⟩
          repeat refine hX _ _ _ _ _ _ _ _ _ _ _ _ _ _ rfl ?_
          refine br_t (show ¬ b2i true = 0 by decide) ?_
          repeat refine hX _ _ _ _ _ _ _ _ _ _ _ _ _ _ rfl ?_
          refine ⟨by unfold vp_in; decide, 32, rfl, ?_⟩
          repeat refine hX _ _ _ _ _ _ _ _ _ _ _ _ _ _ rfl ?_
          refine Or.inl ⟨_, _, hcp, ?_⟩
          repeat refine hX _ _ _ _ _ _ _ _ _ _ _ _ _ _ rfl ?_
          refine ⟨by unfold vp_in; decide, Or.inr rfl, ?_⟩
          repeat refine hX _ _ _ _ _ _ _ _ _ _ _ _ _ _ rfl ?_
          rw [hcm]
          refine Or.inl ⟨_, _, hbc _, ?_⟩
          repeat refine hX _ _ _ _ _ _ _ _ _ _ _ _ _ _ rfl ?_
          exact ⟨rfl, rfl⟩
theorem c_lose (S : zS) (d : Nat) (sw : Bool) (c : cS) (hm : List zC) : Ex S (d + 1) 0 0 2 [.ref 24] (hC sw c, hm) none (hC sw (s_cPa c (s_pKnown (cPa c) 0)), hm) := by
  cases sw
  all_goals
    (refine exI rfl rfl ?_; intro X hX)
    repeat refine hX _ _ _ _ _ _ _ _ _ _ _ _ _ _ rfl ?_
    exact ⟨rfl, rfl⟩
def spBack (a : aS) (x : Int32) : Int32 × aS := bif inb x 2 then (bif sKe a x.toNatClampNeg then (nI (pop (nCo (sIm a x.toNatClampNeg))), uNow a (sIm a x.toNatClampNeg) 0 (sH a)) else (-2, a)) else (-1, a)
theorem c_back (S : zS) (d : Nat) (sw : Bool) (c : cS) (hm : List zC) {a : aS} (hA : AWf a) (hR : CRel c a) (x : Int32) : ∃ c', Ex S (d + 2) 0 0 60 [.ref 0, .int x] (hC sw c, hm) (some (.int (spBack a x).1)) (hC sw c', hm) ∧ CRel c' (spBack a x).2 := by
  have him := fun h => c_isImage S d h x
  have hke := hR.2.2.2.2.1
  unfold spBack
  cases hin : inb x 2 with
  | false =>
    rw [hin] at him
    refine ⟨c, ?_, hR⟩
    cases sw
    all_goals
      (refine exI rfl rfl ?_; intro X hX)
      repeat refine hX _ _ _ _ _ _ _ _ _ _ _ _ _ _ rfl ?_
      refine Or.inl ⟨_, _, him _, ?_⟩
      repeat refine hX _ _ _ _ _ _ _ _ _ _ _ _ _ _ rfl ?_
      refine br_f (show ¬ ¬ b2i false = 0 by decide) ?_
      repeat refine hX _ _ _ _ _ _ _ _ _ _ _ _ _ _ rfl ?_
      exact ⟨rfl, rfl⟩
  | true =>
    rw [hin] at him
    obtain ⟨j, hj, rfl⟩ := inb_of hin (by decide)
    simp only [cond_true, nI_clamp (show j < 2 ^ 31 by omega)]
    have hkj := hke j hj
    cases hk : sKe a j with
    | false =>
      rw [hk] at hkj
      refine ⟨c, ?_, hR⟩
      cases sw
      all_goals
        (refine exI rfl rfl ?_; intro X hX)
        repeat refine hX _ _ _ _ _ _ _ _ _ _ _ _ _ _ rfl ?_
        refine Or.inl ⟨_, _, him _, ?_⟩
        repeat refine hX _ _ _ _ _ _ _ _ _ _ _ _ _ _ rfl ?_
        refine br_t (show ¬ b2i true = 0 by decide) ?_
        repeat refine hX _ _ _ _ _ _ _ _ _ _ _ _ _ _ rfl ?_
        refine ⟨vp_in_nI (by omega) (by decide), ?_⟩
        rw [nI_clamp (by omega)]
        rw [hkj]
        repeat refine hX _ _ _ _ _ _ _ _ _ _ _ _ _ _ rfl ?_
        refine br_f (show ¬ ¬ b2i false = 0 by decide) ?_
        repeat refine hX _ _ _ _ _ _ _ _ _ _ _ _ _ _ rfl ?_
        exact ⟨rfl, rfl⟩
    | true =>
      rw [hk] at hkj
      have hWi := hA.2.2.2.2.1 j hj hk
      have hbc := fun h => j_bcN S d h (nCo_lt hA.1 hWi)
      by_cases h0 : j = 0
      · subst h0
        have hNi := hR.2.2.2.2.2.1 hk
        have hci := hNi.1
        have hcp := c_copy_b0 S d sw c hm
        have hbc2 : ∀ h, Ex S (d + 1) 0 0 150 [.int (nCome (cI0 c))] h (some (.int (nI (pop (nCo (sIm a 0)))))) h := fun h => by rw [hci]; exact hbc h
        have hlo := c_lose S d sw (s_cSc c (cpN (cI0 c) (cSc c))) hm
        refine ⟨s_cPa (s_cSc c (cpN (cI0 c) (cSc c))) (s_pKnown (cPa c) 0), ?_, ⟨hR.1, cpN_rel hA.1 _ hNi, hR.2.2.1, ⟨rfl, fun j hj => absurd hj (Nat.not_lt_zero j)⟩, hR.2.2.2.2.1, hR.2.2.2.2.2.1, hR.2.2.2.2.2.2.1, hR.2.2.2.2.2.2.2.1, hR.2.2.2.2.2.2.2.2⟩⟩
        cases sw
        all_goals
          (refine exI rfl rfl ?_; intro X hX)
          repeat refine hX _ _ _ _ _ _ _ _ _ _ _ _ _ _ rfl ?_
          refine Or.inl ⟨_, _, him _, ?_⟩
          repeat refine hX _ _ _ _ _ _ _ _ _ _ _ _ _ _ rfl ?_
          refine br_t (show ¬ b2i true = 0 by decide) ?_
          repeat refine hX _ _ _ _ _ _ _ _ _ _ _ _ _ _ rfl ?_
          refine ⟨vp_in_nI (by omega) (by decide), ?_⟩
          rw [nI_clamp (by omega)]
          rw [hkj]
          repeat refine hX _ _ _ _ _ _ _ _ _ _ _ _ _ _ rfl ?_
          refine br_t (show ¬ b2i true = 0 by decide) ?_
          repeat refine hX _ _ _ _ _ _ _ _ _ _ _ _ _ _ rfl ?_
          refine ⟨by unfold vp_in; decide, 29, rfl, ?_⟩
          repeat refine hX _ _ _ _ _ _ _ _ _ _ _ _ _ _ rfl ?_
          refine Or.inl ⟨_, _, hcp, ?_⟩
          repeat refine hX _ _ _ _ _ _ _ _ _ _ _ _ _ _ rfl ?_
          refine Or.inl ⟨_, _, hlo, ?_⟩
          repeat refine hX _ _ _ _ _ _ _ _ _ _ _ _ _ _ rfl ?_
          refine Or.inl ⟨_, _, hbc2 _, ?_⟩
          repeat refine hX _ _ _ _ _ _ _ _ _ _ _ _ _ _ rfl ?_
          exact ⟨rfl, rfl⟩
      · have : j = 1 := by omega
        subst this
        have hNi := hR.2.2.2.2.2.2.1 hk
        have hci := hNi.1
        have hcp := c_copy_b1 S d sw c hm
        have hbc2 : ∀ h, Ex S (d + 1) 0 0 150 [.int (nCome (cI1 c))] h (some (.int (nI (pop (nCo (sIm a 1)))))) h := fun h => by rw [hci]; exact hbc h
        have hlo := c_lose S d sw (s_cSc c (cpN (cI1 c) (cSc c))) hm
        refine ⟨s_cPa (s_cSc c (cpN (cI1 c) (cSc c))) (s_pKnown (cPa c) 0), ?_, ⟨hR.1, cpN_rel hA.1 _ hNi, hR.2.2.1, ⟨rfl, fun j hj => absurd hj (Nat.not_lt_zero j)⟩, hR.2.2.2.2.1, hR.2.2.2.2.2.1, hR.2.2.2.2.2.2.1, hR.2.2.2.2.2.2.2.1, hR.2.2.2.2.2.2.2.2⟩⟩
        cases sw
        all_goals
          (refine exI rfl rfl ?_; intro X hX)
          repeat refine hX _ _ _ _ _ _ _ _ _ _ _ _ _ _ rfl ?_
          refine Or.inl ⟨_, _, him _, ?_⟩
          repeat refine hX _ _ _ _ _ _ _ _ _ _ _ _ _ _ rfl ?_
          refine br_t (show ¬ b2i true = 0 by decide) ?_
          repeat refine hX _ _ _ _ _ _ _ _ _ _ _ _ _ _ rfl ?_
          refine ⟨vp_in_nI (by omega) (by decide), ?_⟩
          rw [nI_clamp (by omega)]
          rw [hkj]
          repeat refine hX _ _ _ _ _ _ _ _ _ _ _ _ _ _ rfl ?_
          refine br_t (show ¬ b2i true = 0 by decide) ?_
          repeat refine hX _ _ _ _ _ _ _ _ _ _ _ _ _ _ rfl ?_
          refine ⟨by unfold vp_in; decide, 32, rfl, ?_⟩
          repeat refine hX _ _ _ _ _ _ _ _ _ _ _ _ _ _ rfl ?_
          refine Or.inl ⟨_, _, hcp, ?_⟩
          repeat refine hX _ _ _ _ _ _ _ _ _ _ _ _ _ _ rfl ?_
          refine Or.inl ⟨_, _, hlo, ?_⟩
          repeat refine hX _ _ _ _ _ _ _ _ _ _ _ _ _ _ rfl ?_
          refine Or.inl ⟨_, _, hbc2 _, ?_⟩
          repeat refine hX _ _ _ _ _ _ _ _ _ _ _ _ _ _ rfl ?_
          exact ⟨rfl, rfl⟩
