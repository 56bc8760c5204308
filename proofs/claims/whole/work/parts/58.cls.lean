def aMk (T : aT) (j : Nat) : Nat := nmask (aNp T) (fun p => (aWg T p).testBit (aIn T j))
def fIns (f0 : cF) (T : aT) (j : Nat) : cF := fun i => if i < j then nI (aMk T i) else f0 i
theorem upd_upd (f : cF) (k : Nat) (x y : Int32) : upd (upd f k x) k y = upd f k y := by
  funext i
  unfold upd
  by_cases h : i = k
  · rw [if_pos h, if_pos h]
  · rw [if_neg h, if_neg h, if_neg h]
theorem fIns_0 (f0 : cF) (T : aT) : fIns f0 T 0 = f0 := by funext i; simp [fIns]
theorem fIns_s (f0 : cF) (T : aT) (j : Nat) : upd (fIns f0 T j) j (nI (aMk T j)) = fIns f0 T (j + 1) := by
  funext i
  unfold upd fIns
  by_cases h : i = j
  · subst h; simp
  · rw [if_neg h]
    by_cases h2 : i < j
    · rw [if_pos h2, if_pos (by omega)]
    · rw [if_neg h2, if_neg (by omega)]
theorem set_ins_false (rd : cR) (to : cT) (t1 t2 t3 t4 : Int32) (t5 t6 t7 t8 t9 t10 t11 F G : cF) (rest : cN × cP × cN × cN × cF × cF × cF × Int32 × Int64) (hm : List zC) : z_set (hC false (rd, to, (t1, t2, t3, t4, t5, t6, t7, t8, t9, t10, t11, F), rest), hm) 11 (.inl (0, 6, G)) = (hC false (rd, to, (t1, t2, t3, t4, t5, t6, t7, t8, t9, t10, t11, G), rest), hm) := rfl
theorem set_ins_true (rd : cR) (to : cT) (t1 t2 t3 t4 : Int32) (t5 t6 t7 t8 t9 t10 t11 F G : cF) (rest : cN × cP × cN × cN × cF × cF × cF × Int32 × Int64) (hm : List zC) : z_set (hC true (rd, to, (t1, t2, t3, t4, t5, t6, t7, t8, t9, t10, t11, F), rest), hm) 20 (.inl (0, 6, G)) = (hC true (rd, to, (t1, t2, t3, t4, t5, t6, t7, t8, t9, t10, t11, G), rest), hm) := rfl
theorem eta_ins (c : cS) : s_cSp c (s_tInsulted (cSp c) (tInsulted (cSp c))) = c := by
  obtain ⟨a1, a2, ⟨t1, t2, t3, t4, t5, t6, t7, t8, t9, t10, t11, t12⟩, a4⟩ := c
  rfl
theorem c_findInsulted (S : zS) (d : Nat) (sw : Bool) (c : cS) (hm : List zC) {T : aT} {ya : aF} (hA : TWf T) (hS : SRel (cSp c) T ya) : Ex S (d + 2) 0 0 34 [.ref (spR sw)] (hC sw c, hm) none (hC sw (s_cSp c (s_tInsulted (cSp c) (fIns (tInsulted (cSp c)) T (aNs T)))), hm) := by
  obtain ⟨rd, to, ⟨t1, t2, t3, t4, t5, t6, t7, t8, t9, t10, t11, t12⟩, rest⟩ := c
  have hns := hA.2.2.2.1
  have hnp := hA.2.2.2.2.1
  have hn : t3 = nI (aNs T) := hS.2.2.1
  have hp : t4 = nI (aNp T) := hS.2.2.2.1
  have hh := fun h p (hp : p < aNp T) j (hj : j < aNs T) => c_hasX S d h (hA.2.2.2.2.2.2 p hp).2.2.2.2 (hA.2.2.2.2.2.1 j hj).2.2
  have hwr : ∀ p, p < aNp T → t11 p = nI (aWg T p) := fun p hp => (hS.2.2.2.2.2 p hp).2.2.2
  have hin : ∀ j, j < aNs T → t7 j = nI (aIn T j) := fun j hj => (hS.2.2.2.2.1 j hj).2.2
  cases sw
  case false =>
    (refine exI rfl rfl ?_; intro X hX)
    have loop : ∀ (k j : Nat) (v : Option Value) (F : cF), j + k = aNs T → (v = none ∨ ∃ z, v = some (.int z)) → F = fIns t12 T j → X 2 [some (.ref 3), some (.int (nI j)), v] [] (hC false (rd, to, (t1, t2, t3, t4, t5, t6, t7, t8, t9, t10, t11, F), rest), hm) 0 0 := by
      intro k
      induction k with
      | zero =>
        intro j v F hj hv hF
        have : j = aNs T := by omega
        subst this
        repeat refine hX _ _ _ _ _ _ _ _ _ _ _ _ _ _ rfl ?_
        refine br_t (show t3 ≤ nI (aNs T) from by rw [hn]; exact nI_le (by omega) (by omega)) ?_
        repeat refine hX _ _ _ _ _ _ _ _ _ _ _ _ _ _ rfl ?_
        rw [hF]
        exact ⟨rfl, rfl⟩
      | succ k ih =>
        intro j v F hj hv hF
        have inner : ∀ (q p : Nat) (B : cF), p + q = aNp T → B = upd F j (nI (nmask p (fun p => (aWg T p).testBit (aIn T j)))) → X 19 [some (.ref 3), some (.int (nI j)), some (.int (nI p))] [] (hC false (rd, to, (t1, t2, t3, t4, t5, t6, t7, t8, t9, t10, t11, B), rest), hm) 0 0 := by
          intro q
          induction q with
          | zero =>
            intro p B hpq hB
            have : p = aNp T := by omega
            subst this
            have h7 := ih (j + 1) (some (.int (nI (aNp T)))) B (by omega) (Or.inr ⟨_, rfl⟩) (by rw [← fIns_s, hB, hF]; rfl)
            rw [← nI_1] at h7
            repeat refine hX _ _ _ _ _ _ _ _ _ _ _ _ _ _ rfl ?_
            refine br_t (show t4 ≤ nI (aNp T) from by rw [hp]; exact nI_le (by omega) (by omega)) ?_
            iterate 2 (refine hX _ _ _ _ _ _ _ _ _ _ _ _ _ _ rfl ?_)
            exact h7
          | succ q ihq =>
            intro p B hpq hB
            have h7 := fun B' => ihq (p + 1) B' (by omega)
            rw [nmask] at h7
            have hBj : B j = nI (nmask p (fun p => (aWg T p).testBit (aIn T j))) := by rw [hB, pk_us]
            have hw : tWrongs (cSp (rd, to, (t1, t2, t3, t4, t5, t6, t7, t8, t9, t10, t11, B), rest)) p = nI (aWg T p) := hwr p (by omega)
            have hi : tInsult (cSp (rd, to, (t1, t2, t3, t4, t5, t6, t7, t8, t9, t10, t11, B), rest)) j = nI (aIn T j) := hin j (by omega)
            have hhp := fun h => hh h p (by omega) j (by omega)
            repeat refine hX _ _ _ _ _ _ _ _ _ _ _ _ _ _ rfl ?_
            refine br_f (show ¬ t4 ≤ nI p from by rw [hp]; exact nI_ge (by omega) (by omega)) ?_
            repeat refine hX _ _ _ _ _ _ _ _ _ _ _ _ _ _ rfl ?_
            refine ⟨vp_in_nI (by omega) (by decide), ?_⟩
            rw [nI_clamp (by omega)]
            rw [hw]
            repeat refine hX _ _ _ _ _ _ _ _ _ _ _ _ _ _ rfl ?_
            refine ⟨vp_in_nI (by omega) (by decide), ?_⟩
            rw [nI_clamp (by omega)]
            rw [hi]
            repeat refine hX _ _ _ _ _ _ _ _ _ _ _ _ _ _ rfl ?_
            refine Or.inl ⟨_, _, hhp _, ?_⟩
            repeat refine hX _ _ _ _ _ _ _ _ _ _ _ _ _ _ rfl ?_
            cases hb : (aWg T p).testBit (aIn T j) with
            | false =>
              rw [hb] at h7
              have h9 := h7 B (by rw [hB]; rfl)
              refine br_t (show b2i false = 0 from rfl) ?_
              iterate 2 (refine hX _ _ _ _ _ _ _ _ _ _ _ _ _ _ rfl ?_)
              rw [nI_1]
              exact h9
            | true =>
              rw [hb] at h7
              have h9 := h7 (upd B j (B j ||| (1 <<< (nI p &&& 31)))) (by rw [hBj, hB, upd_upd, q_shl p (by omega), nI_or, nmask_set]; rfl)
              clear h7 hBj hB
              rw [← nI_1, ← set_ins_false _ _ _ _ _ _ _ _ _ _ _ _ _ B] at h9
              refine br_f (show ¬ b2i true = 0 by decide) ?_
              repeat refine hX _ _ _ _ _ _ _ _ _ _ _ _ _ _ rfl ?_
              refine ⟨vp_in_nI (by omega) (by decide), ?_⟩
              rw [nI_clamp (by omega)]
              repeat refine hX _ _ _ _ _ _ _ _ _ _ _ _ _ _ rfl ?_
              refine ⟨vp_in_nI (by omega) (by decide), ?_⟩
              rw [nI_clamp (by omega)]
              iterate 2 (refine hX _ _ _ _ _ _ _ _ _ _ _ _ _ _ rfl ?_)
              exact h9
        have h7 := fun x (hx : x = nI 0) => inner (aNp T) 0 (upd F j x) (by omega) (by rw [hx]; rfl)
        have h7 := h7 0 rfl
        clear inner hF
        rw [← set_ins_false _ _ _ _ _ _ _ _ _ _ _ _ _ F] at h7
        rcases hv with rfl | ⟨z, rfl⟩
        all_goals
          repeat refine hX _ _ _ _ _ _ _ _ _ _ _ _ _ _ rfl ?_
          refine br_f (show ¬ t3 ≤ nI j from by rw [hn]; exact nI_ge (by omega) (by omega)) ?_
          repeat refine hX _ _ _ _ _ _ _ _ _ _ _ _ _ _ rfl ?_
          refine ⟨vp_in_nI (by omega) (by decide), ?_⟩
          rw [nI_clamp (by omega)]
          iterate 2 (refine hX _ _ _ _ _ _ _ _ _ _ _ _ _ _ rfl ?_)
          exact h7
    have h8 := loop (aNs T) 0 none t12 (by omega) (Or.inl rfl) (fIns_0 _ _).symm
    iterate 2 (refine hX _ _ _ _ _ _ _ _ _ _ _ _ _ _ rfl ?_)
    exact h8
  case true =>
    (refine exI rfl rfl ?_; intro X hX)
    have loop : ∀ (k j : Nat) (v : Option Value) (F : cF), j + k = aNs T → (v = none ∨ ∃ z, v = some (.int z)) → F = fIns t12 T j → X 2 [some (.ref 12), some (.int (nI j)), v] [] (hC true (rd, to, (t1, t2, t3, t4, t5, t6, t7, t8, t9, t10, t11, F), rest), hm) 0 0 := by
      intro k
      induction k with
      | zero =>
        intro j v F hj hv hF
        have : j = aNs T := by omega
        subst this
        repeat refine hX _ _ _ _ _ _ _ _ _ _ _ _ _ _ rfl ?_
        refine br_t (show t3 ≤ nI (aNs T) from by rw [hn]; exact nI_le (by omega) (by omega)) ?_
        repeat refine hX _ _ _ _ _ _ _ _ _ _ _ _ _ _ rfl ?_
        rw [hF]
        exact ⟨rfl, rfl⟩
      | succ k ih =>
        intro j v F hj hv hF
        have inner : ∀ (q p : Nat) (B : cF), p + q = aNp T → B = upd F j (nI (nmask p (fun p => (aWg T p).testBit (aIn T j)))) → X 19 [some (.ref 12), some (.int (nI j)), some (.int (nI p))] [] (hC true (rd, to, (t1, t2, t3, t4, t5, t6, t7, t8, t9, t10, t11, B), rest), hm) 0 0 := by
          intro q
          induction q with
          | zero =>
            intro p B hpq hB
            have : p = aNp T := by omega
            subst this
            have h7 := ih (j + 1) (some (.int (nI (aNp T)))) B (by omega) (Or.inr ⟨_, rfl⟩) (by rw [← fIns_s, hB, hF]; rfl)
            rw [← nI_1] at h7
            repeat refine hX _ _ _ _ _ _ _ _ _ _ _ _ _ _ rfl ?_
            refine br_t (show t4 ≤ nI (aNp T) from by rw [hp]; exact nI_le (by omega) (by omega)) ?_
            iterate 2 (refine hX _ _ _ _ _ _ _ _ _ _ _ _ _ _ rfl ?_)
            exact h7
          | succ q ihq =>
            intro p B hpq hB
            have h7 := fun B' => ihq (p + 1) B' (by omega)
            rw [nmask] at h7
            have hBj : B j = nI (nmask p (fun p => (aWg T p).testBit (aIn T j))) := by rw [hB, pk_us]
            have hw : tWrongs (cSp (rd, to, (t1, t2, t3, t4, t5, t6, t7, t8, t9, t10, t11, B), rest)) p = nI (aWg T p) := hwr p (by omega)
            have hi : tInsult (cSp (rd, to, (t1, t2, t3, t4, t5, t6, t7, t8, t9, t10, t11, B), rest)) j = nI (aIn T j) := hin j (by omega)
            have hhp := fun h => hh h p (by omega) j (by omega)
            repeat refine hX _ _ _ _ _ _ _ _ _ _ _ _ _ _ rfl ?_
            refine br_f (show ¬ t4 ≤ nI p from by rw [hp]; exact nI_ge (by omega) (by omega)) ?_
            repeat refine hX _ _ _ _ _ _ _ _ _ _ _ _ _ _ rfl ?_
            refine ⟨vp_in_nI (by omega) (by decide), ?_⟩
            rw [nI_clamp (by omega)]
            rw [hw]
            repeat refine hX _ _ _ _ _ _ _ _ _ _ _ _ _ _ rfl ?_
            refine ⟨vp_in_nI (by omega) (by decide), ?_⟩
            rw [nI_clamp (by omega)]
            rw [hi]
            repeat refine hX _ _ _ _ _ _ _ _ _ _ _ _ _ _ rfl ?_
            refine Or.inl ⟨_, _, hhp _, ?_⟩
            repeat refine hX _ _ _ _ _ _ _ _ _ _ _ _ _ _ rfl ?_
            cases hb : (aWg T p).testBit (aIn T j) with
            | false =>
              rw [hb] at h7
              have h9 := h7 B (by rw [hB]; rfl)
              refine br_t (show b2i false = 0 from rfl) ?_
              iterate 2 (refine hX _ _ _ _ _ _ _ _ _ _ _ _ _ _ rfl ?_)
              rw [nI_1]
              exact h9
            | true =>
              rw [hb] at h7
              have h9 := h7 (upd B j (B j ||| (1 <<< (nI p &&& 31)))) (by rw [hBj, hB, upd_upd, q_shl p (by omega), nI_or, nmask_set]; rfl)
              clear h7 hBj hB
              rw [← nI_1, ← set_ins_true _ _ _ _ _ _ _ _ _ _ _ _ _ B] at h9
              refine br_f (show ¬ b2i true = 0 by decide) ?_
              repeat refine hX _ _ _ _ _ _ _ _ _ _ _ _ _ _ rfl ?_
              refine ⟨vp_in_nI (by omega) (by decide), ?_⟩
              rw [nI_clamp (by omega)]
              repeat refine hX _ _ _ _ _ _ _ _ _ _ _ _ _ _ rfl ?_
              refine ⟨vp_in_nI (by omega) (by decide), ?_⟩
              rw [nI_clamp (by omega)]
              iterate 2 (refine hX _ _ _ _ _ _ _ _ _ _ _ _ _ _ rfl ?_)
              exact h9
        have h7 := fun x (hx : x = nI 0) => inner (aNp T) 0 (upd F j x) (by omega) (by rw [hx]; rfl)
        have h7 := h7 0 rfl
        clear inner hF
        rw [← set_ins_true _ _ _ _ _ _ _ _ _ _ _ _ _ F] at h7
        rcases hv with rfl | ⟨z, rfl⟩
        all_goals
          repeat refine hX _ _ _ _ _ _ _ _ _ _ _ _ _ _ rfl ?_
          refine br_f (show ¬ t3 ≤ nI j from by rw [hn]; exact nI_ge (by omega) (by omega)) ?_
          repeat refine hX _ _ _ _ _ _ _ _ _ _ _ _ _ _ rfl ?_
          refine ⟨vp_in_nI (by omega) (by decide), ?_⟩
          rw [nI_clamp (by omega)]
          iterate 2 (refine hX _ _ _ _ _ _ _ _ _ _ _ _ _ _ rfl ?_)
          exact h7
    have h8 := loop (aNs T) 0 none t12 (by omega) (Or.inl rfl) (fIns_0 _ _).symm
    iterate 2 (refine hX _ _ _ _ _ _ _ _ _ _ _ _ _ _ rfl ?_)
    exact h8
