theorem c_readTown (S : zS) (d : Nat) (sw : Bool) (c : cS) (hm : List zC) {tx : aF} {L : Nat} (hR : RR (cRd c) tx L) : ∃ v r' t', Ex S (d + 6) 0 0 9 [.ref 1] (hC sw c, hm) (some (.int v)) (hC sw (s_cSp (s_cRd c r') t'), hm) ∧ TPost tx L c v r' t' (pLop tx L (L + 1) 0 (tB tx L 0) tT0 (fun _ => 0) false) := by
  have hem := c_empty S (d + 4) sw c hm
  obtain ⟨v, r', t', hrun, hpo⟩ := c_readLoop S d sw c hm hR (L + 1) 0 0 (rLetters (cRd c), rText (cRd c), 0, 0, rPlace (cRd c), 0, rToken (cRd c), rNumber (cRd c)) (6, 1, 0, 0, (cSp c).2.2.2.2) tT0 (fun _ => 0) false rfl rfl rfl rfl rfl (Nat.zero_le _) (Nat.le_refl _) (by omega) ⟨⟨by decide, by decide, by decide, by decide, by decide, fun j hj => absurd hj (Nat.not_lt_zero j), fun j hj => absurd hj (Nat.not_lt_zero j)⟩, fun j hj => absurd hj (Nat.not_lt_zero j), fun j hj => absurd hj (Nat.not_lt_zero j)⟩ (fun _ => ⟨rfl, rfl⟩) ⟨rfl, rfl, rfl, rfl, fun j hj => absurd hj (Nat.not_lt_zero j), fun j hj => absurd hj (Nat.not_lt_zero j)⟩
  refine ⟨v, r', t', ?_, hpo⟩
  cases sw
  all_goals
    (refine exI rfl rfl ?_; intro X hX)
    have h22 := hrun X hX
    repeat refine hX _ _ _ _ _ _ _ _ _ _ _ _ _ _ rfl ?_
    refine Or.inl ⟨_, _, hem, ?_⟩
    iterate 3 (refine hX _ _ _ _ _ _ _ _ _ _ _ _ _ _ rfl ?_)
    refine ⟨Or.inl rfl, ?_⟩
    iterate 6 (refine hX _ _ _ _ _ _ _ _ _ _ _ _ _ _ rfl ?_)
    exact h22
theorem c_giveTown (S : zS) (d : Nat) (sw : Bool) (c : cS) (hm : List zC) : Ex S (d + 1) 0 0 8 [.ref 1, .ref (toR sw)] (hC sw c, hm) (some (.ref (spR sw))) (z_set (hC sw c, hm) 1 (.inr (.inr (1, [.int (rLetters (cRd c)), .ref 2, .ref (toR sw), .int (rItems (cRd c)), .int (rSightTold (cRd c)), .int (rPlace (cRd c)), .int (rNext (cRd c)), .int (rToken (cRd c)), .int (rNumber (cRd c))])))) := by
  cases sw
  all_goals
    (refine exI rfl rfl ?_; intro X hX)
    repeat refine hX _ _ _ _ _ _ _ _ _ _ _ _ _ _ rfl ?_
    exact ⟨rfl, rfl⟩
theorem c_begin (S : zS) (d : Nat) (sw : Bool) (c : cS) (hm : List zC) : Ex S (d + 1) 0 0 23 [.ref 21, .ref (toR sw)] (hC sw c, hm) none (hC sw (s_cSc c (0, cpf (tStands (cTo c)) (nYardOf (cSc c)) 6, cpf (fun _ => 0) (nClaimed (cSc c)) 6)), hm) := by
  cases sw
  case false =>
    (refine exI rfl rfl ?_; intro X hX)
    have loop : ∀ (k i : Nat), i + k = 6 → X 7 [some (.ref 21), some (.ref 12), some (.int (nI i))] [] (hC false (s_cSc c (0, cpf (tStands (cTo c)) (nYardOf (cSc c)) i, cpf (fun _ => 0) (nClaimed (cSc c)) i)), hm) 0 0 := by
      intro k
      induction k with
      | zero =>
        intro i hi
        have : i = 6 := by omega
        subst this
        repeat refine hX _ _ _ _ _ _ _ _ _ _ _ _ _ _ rfl ?_
        refine br_t (show nI 6 ≤ nI 6 from nI_le (by omega) (by decide)) ?_
        repeat refine hX _ _ _ _ _ _ _ _ _ _ _ _ _ _ rfl ?_
        exact ⟨rfl, rfl⟩
      | succ k ih =>
        intro i hi
        repeat refine hX _ _ _ _ _ _ _ _ _ _ _ _ _ _ rfl ?_
        refine br_f (show ¬ nI 6 ≤ nI i from nI_ge (by omega) (by decide)) ?_
        repeat refine hX _ _ _ _ _ _ _ _ _ _ _ _ _ _ rfl ?_
        refine ⟨vp_in_nI (by omega) (by decide), ?_⟩
        rw [nI_clamp (by omega)]
        repeat refine hX _ _ _ _ _ _ _ _ _ _ _ _ _ _ rfl ?_
        refine ⟨vp_in_nI (by omega) (by decide), ?_⟩
        rw [nI_clamp (by omega)]
        repeat refine hX _ _ _ _ _ _ _ _ _ _ _ _ _ _ rfl ?_
        refine ⟨vp_in_nI (by omega) (by decide), ?_⟩
        rw [nI_clamp (by omega)]
        iterate 2 (refine hX _ _ _ _ _ _ _ _ _ _ _ _ _ _ rfl ?_)
        rw [nI_1]
        have h7 := ih (i + 1) (by omega)
        rw [← cpf_s, ← cpf_s] at h7
        exact h7
    have h8 := loop 6 0 (by omega)
    rw [cpf_0, cpf_0] at h8
    iterate 5 (refine hX _ _ _ _ _ _ _ _ _ _ _ _ _ _ rfl ?_)
    exact h8
  case true =>
    (refine exI rfl rfl ?_; intro X hX)
    have loop : ∀ (k i : Nat), i + k = 6 → X 7 [some (.ref 21), some (.ref 3), some (.int (nI i))] [] (hC true (s_cSc c (0, cpf (tStands (cTo c)) (nYardOf (cSc c)) i, cpf (fun _ => 0) (nClaimed (cSc c)) i)), hm) 0 0 := by
      intro k
      induction k with
      | zero =>
        intro i hi
        have : i = 6 := by omega
        subst this
        repeat refine hX _ _ _ _ _ _ _ _ _ _ _ _ _ _ rfl ?_
        refine br_t (show nI 6 ≤ nI 6 from nI_le (by omega) (by decide)) ?_
        repeat refine hX _ _ _ _ _ _ _ _ _ _ _ _ _ _ rfl ?_
        exact ⟨rfl, rfl⟩
      | succ k ih =>
        intro i hi
        repeat refine hX _ _ _ _ _ _ _ _ _ _ _ _ _ _ rfl ?_
        refine br_f (show ¬ nI 6 ≤ nI i from nI_ge (by omega) (by decide)) ?_
        repeat refine hX _ _ _ _ _ _ _ _ _ _ _ _ _ _ rfl ?_
        refine ⟨vp_in_nI (by omega) (by decide), ?_⟩
        rw [nI_clamp (by omega)]
        repeat refine hX _ _ _ _ _ _ _ _ _ _ _ _ _ _ rfl ?_
        refine ⟨vp_in_nI (by omega) (by decide), ?_⟩
        rw [nI_clamp (by omega)]
        repeat refine hX _ _ _ _ _ _ _ _ _ _ _ _ _ _ rfl ?_
        refine ⟨vp_in_nI (by omega) (by decide), ?_⟩
        rw [nI_clamp (by omega)]
        iterate 2 (refine hX _ _ _ _ _ _ _ _ _ _ _ _ _ _ rfl ?_)
        rw [nI_1]
        have h7 := ih (i + 1) (by omega)
        rw [← cpf_s, ← cpf_s] at h7
        exact h7
    have h8 := loop 6 0 (by omega)
    rw [cpf_0, cpf_0] at h8
    iterate 5 (refine hX _ _ _ _ _ _ _ _ _ _ _ _ _ _ rfl ?_)
    exact h8
abbrev cNew (c : cS) : cS := s_cKept (s_cSeen (s_cPa (s_cSc (s_cRd c (s_rLetters (cRd c) 0)) (0, cpf (tStands (cTo c)) (nYardOf (cSc c)) 6, cpf (fun _ => 0) (nClaimed (cSc c)) 6)) (s_pKnown (cPa c) 0)) 0) (upd (upd (cKept c) 0 0) 1 0)
theorem c_beginAnew (S : zS) (d : Nat) (sw : Bool) (c : cS) (hm : List zC) : Ex S (d + 2) 0 0 40 [.ref 0] (hC sw c, hm) none (hC sw (cNew c), hm) := by
  have hbe := c_begin S d sw (s_cRd c (s_rLetters (cRd c) 0)) hm
  have hlo := c_lose S d sw (s_cSc (s_cRd c (s_rLetters (cRd c) 0)) (0, cpf (tStands (cTo c)) (nYardOf (cSc c)) 6, cpf (fun _ => 0) (nClaimed (cSc c)) 6)) hm
  cases sw
  all_goals
    (refine exI rfl rfl ?_; intro X hX)
    repeat refine hX _ _ _ _ _ _ _ _ _ _ _ _ _ _ rfl ?_
    refine Or.inl ⟨_, _, hbe, ?_⟩
    repeat refine hX _ _ _ _ _ _ _ _ _ _ _ _ _ _ rfl ?_
    refine Or.inl ⟨_, _, hlo, ?_⟩
    repeat refine hX _ _ _ _ _ _ _ _ _ _ _ _ _ _ rfl ?_
    refine br_f (show ¬ nI 2 ≤ nI 0 by decide) ?_
    repeat refine hX _ _ _ _ _ _ _ _ _ _ _ _ _ _ rfl ?_
    refine ⟨by unfold vp_in; decide, Or.inl rfl, ?_⟩
    repeat refine hX _ _ _ _ _ _ _ _ _ _ _ _ _ _ rfl ?_
    refine br_f (show ¬ nI 2 ≤ nI 1 by decide) ?_
    repeat refine hX _ _ _ _ _ _ _ _ _ _ _ _ _ _ rfl ?_
    refine ⟨by unfold vp_in; decide, Or.inl rfl, ?_⟩
    repeat refine hX _ _ _ _ _ _ _ _ _ _ _ _ _ _ rfl ?_
    refine br_t (show nI 2 ≤ nI 2 by decide) ?_
    repeat refine hX _ _ _ _ _ _ _ _ _ _ _ _ _ _ rfl ?_
    exact ⟨rfl, rfl⟩
def spTown (a : aS) : Int32 × aS := match pLop (sTx a) (sLen a) (sLen a + 1) 0 (tB (sTx a) (sLen a) 0) tT0 (fun _ => 0) false with
  | .inl f => (-10 - nI f, a)
  | .inr (it, T, ya) => (nI it, mkA T (0, ya, fun _ => 0) 0 (sTx a) 0 (sH a) (fun _ => false) (sIm a) 0 (sOf a) (sIs a) (sTr a))
theorem q_neg : ∀ f, f < 151 → (-10 : Int32) - nI f < 0 := by decide +kernel
theorem nmask_0 (j : Nat) : ∀ n, nmask n (fun _ => (0 : Nat).testBit j) = 0
  | 0 => rfl
  | n + 1 => by rw [nmask, nmask_0 j n, Nat.zero_testBit]; rfl
abbrev cSwp (c : cS) : cS := s_cSp (s_cTo c (cSp c)) (cTo c)
theorem c_town (S : zS) (d : Nat) (sw : Bool) (c : cS) (hm : List zC) {a : aS} (hA : AWf a) (hR : CRel c a) : ∃ sw' c', Ex S (d + 7) 0 0 39 [.ref 0] (hC sw c, hm) (some (.int (spTown a).1)) (hC sw' c', hm) ∧ CRel c' (spTown a).2 := by
  have hRR : RR (cRd c) (sTx a) (sLen a) := ⟨hA.2.2.1.1, hR.2.2.1.1, hR.2.2.1.2, hA.2.2.1.2⟩
  have hL := hA.2.2.1.1
  obtain ⟨v, r', t', hx, hpo⟩ := c_readTown S d sw c hm hRR
  unfold spTown
  cases hres : pLop (sTx a) (sLen a) (sLen a + 1) 0 (tB (sTx a) (sLen a) 0) tT0 (fun _ => 0) false with
  | inl f =>
    rw [hres] at hpo
    obtain ⟨g1, g2, g3, g4⟩ := hpo
    refine ⟨sw, s_cSp (s_cRd c r') t', ?_, ⟨hR.1, hR.2.1, ⟨g1.trans hR.2.2.1.1, fun i hi => ?_⟩, hR.2.2.2.1, hR.2.2.2.2.1, hR.2.2.2.2.2.1, hR.2.2.2.2.2.2.1, hR.2.2.2.2.2.2.2.1, hR.2.2.2.2.2.2.2.2⟩⟩
    · cases sw
      all_goals
        (refine exI rfl rfl ?_; intro X hX)
        repeat refine hX _ _ _ _ _ _ _ _ _ _ _ _ _ _ rfl ?_
        refine Or.inl ⟨_, _, hx, ?_⟩
        repeat refine hX _ _ _ _ _ _ _ _ _ _ _ _ _ _ rfl ?_
        refine br_t (show v < 0 from by rw [g3]; exact q_neg f (by omega)) ?_
        repeat refine hX _ _ _ _ _ _ _ _ _ _ _ _ _ _ rfl ?_
        exact ⟨by rw [g3], rfl⟩
    · show rText r' i = _
      rw [g2]
      exact hR.2.2.1.2 i hi
  | inr w =>
    obtain ⟨it, T', ya'⟩ := w
    rw [hres] at hpo
    obtain ⟨g1, g2, g3, g4, g5, g6, g7⟩ := hpo
    have hns := g5.1.2.2.2.1
    have hgi := c_giveTown S (d + 5) sw (s_cSp (s_cRd c r') t') hm
    have hbe := c_beginAnew S (d + 4) (!sw) (cSwp (s_cSp (s_cRd c r') t')) hm
    refine ⟨!sw, cNew (cSwp (s_cSp (s_cRd c r') t')), ?_, ⟨g6, ⟨rfl, fun j hj => ?_, fun j hj => ?_⟩, ⟨rfl, fun i hi => absurd hi (Nat.not_lt_zero i)⟩, ⟨rfl, fun i hi => absurd hi (Nat.not_lt_zero i)⟩, fun i hi => ?_, (fun h => absurd (show false = true from h) (by decide)), (fun h => absurd (show false = true from h) (by decide)), ⟨rfl, fun i hi => absurd hi (Nat.not_lt_zero i)⟩, hR.2.2.2.2.2.2.2.2⟩⟩
    · cases sw
      all_goals
        (refine exI rfl rfl ?_; intro X hX)
        repeat refine hX _ _ _ _ _ _ _ _ _ _ _ _ _ _ rfl ?_
        refine Or.inl ⟨_, _, hx, ?_⟩
        repeat refine hX _ _ _ _ _ _ _ _ _ _ _ _ _ _ rfl ?_
        refine br_f (show ¬ v < 0 from by rw [g3]; exact nI_pos (by omega)) ?_
        repeat refine hX _ _ _ _ _ _ _ _ _ _ _ _ _ _ rfl ?_
        refine Or.inl ⟨_, _, hgi, ?_⟩
        repeat refine hX _ _ _ _ _ _ _ _ _ _ _ _ _ _ rfl ?_
        refine Or.inl ⟨_, _, hbe, ?_⟩
        repeat refine hX _ _ _ _ _ _ _ _ _ _ _ _ _ _ rfl ?_
        exact ⟨by rw [g3], rfl⟩
    · have hj : j < aNs T' := hj
      show cpf (tStands t') (nYardOf (cSc c)) 6 j = nI (ya' j)
      rw [cpf, if_pos (by omega)]
      exact g7 j hj
    · show cpf (fun _ => 0) (nClaimed (cSc c)) 6 j = nI (nmask (aNp T') (fun _ => (0 : Nat).testBit j))
      rw [nmask_0, cpf, if_pos hj]
      rfl
    · show upd (upd (cKept c) 0 0) 1 0 i = b2i false
      rcases (show i = 0 ∨ i = 1 by omega) with rfl | rfl
      · rw [pk_un (by decide), pk_us]; rfl
      · rw [pk_us]; rfl
