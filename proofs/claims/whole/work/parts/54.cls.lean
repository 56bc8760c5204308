abbrev rX (r : cR) (b e k n : Int32) : cR := (rLetters r, rText r, rItems r, rSightTold r, b, e, k, n)
theorem n_num (S : zS) (d : Nat) (sw : Bool) (c : cS) (hm : List zC) {tx : aF} {L b0 : Nat} (hR : RR (cRd c) tx L) (hb0 : b0 ≤ L) (x k n : Int32) {lo hi : Nat} (hlo : lo < 1000) (hhi : hi < 1000) : Ex S (d + 3) 0 0 16 [.ref 1, .int (nI lo), .int (nI hi)] (hC sw (s_cRd c (rX (cRd c) x (nI (tE tx L b0)) k n)), hm) (some (.int (b2i (rng tx L (nb tx L b0) lo hi)))) (hC sw (s_cRd c (rX (cRd c) (nI (nb tx L b0)) (nI (tE tx L (nb tx L b0))) (nI (tK tx L (nb tx L b0))) (nI (tN tx L (nb tx L b0))))), hm) :=
  c_readNumber S d sw (s_cRd c (rX (cRd c) x (nI (tE tx L b0)) k n)) hm (tx := tx) (L := L) (p := tE tx L b0) hR rfl (tE_le tx hb0).2.1 rfl hlo hhi
theorem n_stop (S : zS) (d : Nat) (sw : Bool) (c : cS) (hm : List zC) {tx : aF} {L b0 : Nat} (hR : RR (cRd c) tx L) (hb0 : b0 ≤ L) (x k n : Int32) : Ex S (d + 3) 0 0 15 [.ref 1] (hC sw (s_cRd c (rX (cRd c) x (nI (tE tx L b0)) k n)), hm) (some (.int (b2i (decide (tK tx L (nb tx L b0) = 3))))) (hC sw (s_cRd c (rX (cRd c) (nI (nb tx L b0)) (nI (tE tx L (nb tx L b0))) (nI (tK tx L (nb tx L b0))) n)), hm) :=
  c_readStop S d sw (s_cRd c (rX (cRd c) x (nI (tE tx L b0)) k n)) hm (tx := tx) (L := L) (p := tE tx L b0) hR rfl (tE_le tx hb0).2.1 rfl
theorem n_ins (S : zS) (d : Nat) (sw : Bool) (c : cS) (hm : List zC) {tx : aF} {L b0 : Nat} (hR : RR (cRd c) tx L) (hb0 : b0 ≤ L) (x k n : Int32) {most : Nat} (hmo : most < 1000) : Ex S (d + 3) 0 0 18 [.ref 1, .int (nI most)] (hC sw (s_cRd c (rX (cRd c) x (nI (tE tx L b0)) k n)), hm) (some (.int (b2i (tI tx L (nb tx L b0) most)))) (hC sw (s_cRd c (rX (cRd c) (nI (nb tx L b0)) (nI (tE tx L (nb tx L b0))) (nI (tK tx L (nb tx L b0))) n)), hm) :=
  c_readInsults S d sw (s_cRd c (rX (cRd c) x (nI (tE tx L b0)) k n)) hm (tx := tx) (L := L) (p := tE tx L b0) hR rfl (tE_le tx hb0).2.1 rfl hmo
theorem lowF_at {tx : aF} : ∀ (n b i : Nat), lowF tx n b = true → b ≤ i → i < b + n → tx i ≤ 102
  | 0, _, _, _, h1, h2 => by omega
  | n + 1, b, i, h, h1, h2 => by
    rw [lowF, Bool.and_eq_true, decide_eq_true_eq] at h
    by_cases hi : i = b
    · rw [hi]; exact h.1
    · exact lowF_at n (b + 1) i h.2 (by omega) (by omega)
theorem tI_at {tx : aF} {L b most : Nat} (h : tI tx L b most = true) : b < L ∧ tE tx L b - b ≤ most ∧ ∀ i, b ≤ i → i < tE tx L b → 97 ≤ tx i ∧ tx i ≤ 102 := by
  unfold tI at h
  rw [Bool.and_eq_true, Bool.and_eq_true, decide_eq_true_eq, decide_eq_true_eq] at h
  obtain ⟨h1, h2, h3⟩ := h
  have ⟨hb, hk⟩ := tK_1 h1
  refine ⟨hb, h2, fun i h4 h5 => ⟨(kOf_1 ((tE_all tx h4 h5).trans hk)).1, lowF_at _ _ i h3 h4 (by omega)⟩⟩
theorem setF_lt {tx : aF} : ∀ (n i v : Nat), v < 64 → (∀ j, i ≤ j → j < i + n → 97 ≤ tx j ∧ tx j ≤ 102) → setF tx n i v < 64
  | 0, _, _, h, _ => h
  | n + 1, i, v, h, hl => by
    rw [setF]
    have := hl i (by omega) (by omega)
    exact setF_lt n (i + 1) _ (q_or_lt _ h _ (q_p64 _ (by omega))) (fun j h1 h2 => hl j (by omega) (by omega))
theorem tS_lt {tx : aF} {L b most : Nat} (h : tI tx L b most = true) : tS tx L b < 64 := by
  obtain ⟨h1, h2, h3⟩ := tI_at h
  have := (tE_le tx (Nat.le_of_lt h1)).2.2 h1
  exact setF_lt _ _ _ (by omega) (fun j h4 h5 => h3 j h4 (by omega))
theorem c_insultsOf (S : zS) (d : Nat) (sw : Bool) (c : cS) (hm : List zC) {tx : aF} {L b : Nat} (hR : RR (cRd c) tx L) (hb : rPlace (cRd c) = nI b) (he : rNext (cRd c) = nI (tE tx L b)) {most : Nat} (hI : tI tx L b most = true) : Ex S (d + 1) 0 0 19 [.ref 1] (hC sw c, hm) (some (.int (nI (tS tx L b)))) (hC sw c, hm) := by
  obtain ⟨hL, hl, htx, hlt⟩ := hR
  obtain ⟨hbl, hmo, hat⟩ := tI_at hI
  have hte := tE_le tx (Nat.le_of_lt hbl)
  unfold tS
  generalize tE tx L b = e at *
  cases sw
  case false =>
    (refine exI rfl rfl ?_; intro X hX)
    have loop : ∀ (n i v : Nat), i + n = e → b ≤ i → setF tx n i v = setF tx (e - b) b 0 → X 7 [some (.ref 1), some (.int (nI v)), some (.int (nI i))] [] (hC false c, hm) 0 0 := by
      intro n
      induction n with
      | zero =>
        intro i v hi hbi hf
        repeat refine hX _ _ _ _ _ _ _ _ _ _ _ _ _ _ rfl ?_
        rw [he]
        refine br_t (show nI e ≤ nI i from nI_le (by omega) (by omega)) ?_
        repeat refine hX _ _ _ _ _ _ _ _ _ _ _ _ _ _ rfl ?_
        rw [setF] at hf
        exact ⟨by rw [hf], rfl⟩
      | succ n ih =>
        intro i v hi hbi hf
        have di := hat i hbi (by omega)
        rw [setF] at hf
        repeat refine hX _ _ _ _ _ _ _ _ _ _ _ _ _ _ rfl ?_
        rw [he]
        refine br_f (show ¬ nI e ≤ nI i from nI_ge (by omega) (by omega)) ?_
        repeat refine hX _ _ _ _ _ _ _ _ _ _ _ _ _ _ rfl ?_
        refine ⟨vp_in_nI (by omega) (by decide), ?_⟩
        rw [nI_clamp (by omega)]
        rw [htx i (by omega)]
        iterate 3 (refine hX _ _ _ _ _ _ _ _ _ _ _ _ _ _ rfl ?_)
        rw [show nI (tx i) - 97 = nI (tx i - 97) from pk_sub (b := 97) di.1]
        iterate 1 (refine hX _ _ _ _ _ _ _ _ _ _ _ _ _ _ rfl ?_)
        rw [q_shl _ (show tx i - 97 < 12 by omega)]
        iterate 3 (refine hX _ _ _ _ _ _ _ _ _ _ _ _ _ _ rfl ?_)
        rw [nI_1, nI_or]
        exact ih (i + 1) _ (by omega) (by omega) hf
    have h7 := loop (e - b) b 0 (by omega) (Nat.le_refl _) rfl
    rw [← hb] at h7
    iterate 5 (refine hX _ _ _ _ _ _ _ _ _ _ _ _ _ _ rfl ?_)
    exact h7
  case true =>
    (refine exI rfl rfl ?_; intro X hX)
    have loop : ∀ (n i v : Nat), i + n = e → b ≤ i → setF tx n i v = setF tx (e - b) b 0 → X 7 [some (.ref 1), some (.int (nI v)), some (.int (nI i))] [] (hC true c, hm) 0 0 := by
      intro n
      induction n with
      | zero =>
        intro i v hi hbi hf
        repeat refine hX _ _ _ _ _ _ _ _ _ _ _ _ _ _ rfl ?_
        rw [he]
        refine br_t (show nI e ≤ nI i from nI_le (by omega) (by omega)) ?_
        repeat refine hX _ _ _ _ _ _ _ _ _ _ _ _ _ _ rfl ?_
        rw [setF] at hf
        exact ⟨by rw [hf], rfl⟩
      | succ n ih =>
        intro i v hi hbi hf
        have di := hat i hbi (by omega)
        rw [setF] at hf
        repeat refine hX _ _ _ _ _ _ _ _ _ _ _ _ _ _ rfl ?_
        rw [he]
        refine br_f (show ¬ nI e ≤ nI i from nI_ge (by omega) (by omega)) ?_
        repeat refine hX _ _ _ _ _ _ _ _ _ _ _ _ _ _ rfl ?_
        refine ⟨vp_in_nI (by omega) (by decide), ?_⟩
        rw [nI_clamp (by omega)]
        rw [htx i (by omega)]
        iterate 3 (refine hX _ _ _ _ _ _ _ _ _ _ _ _ _ _ rfl ?_)
        rw [show nI (tx i) - 97 = nI (tx i - 97) from pk_sub (b := 97) di.1]
        iterate 1 (refine hX _ _ _ _ _ _ _ _ _ _ _ _ _ _ rfl ?_)
        rw [q_shl _ (show tx i - 97 < 12 by omega)]
        iterate 3 (refine hX _ _ _ _ _ _ _ _ _ _ _ _ _ _ rfl ?_)
        rw [nI_1, nI_or]
        exact ih (i + 1) _ (by omega) (by omega) hf
    have h7 := loop (e - b) b 0 (by omega) (Nat.le_refl _) rfl
    rw [← hb] at h7
    iterate 5 (refine hX _ _ _ _ _ _ _ _ _ _ _ _ _ _ rfl ?_)
    exact h7
def CPost (tx : aF) (L : Nat) (c : cS) (r' : cR) (t' : cT) (res : pR) : Prop := rLetters r' = rLetters (cRd c) ∧ rText r' = rText (cRd c) ∧ rItems r' = rItems (cRd c) ∧ match res with
  | .inl f => rPlace r' = nI f ∧ f ≤ L
  | .inr (bl, T', ya', si') => bl < L ∧ rNext r' = nI (tE tx L bl) ∧ rSightTold r' = b2i si' ∧ SRel t' T' ya'
theorem tK_lt {tx : aF} {L b : Nat} (h : tK tx L b = 3) : b < L := by
  unfold tK at h
  by_cases h1 : b < L
  · exact h1
  · rw [if_neg h1] at h; omega
theorem pEnd_post {tx : aF} {L b : Nat} (hb : b ≤ L) {c : cS} {k n : Int32} {t' : cT} {T : aT} {ya : aF} {si : Bool} (hS : SRel t' T ya) (r0 : cR) (h1 : rLetters r0 = rLetters (cRd c)) (h2 : rText r0 = rText (cRd c)) (h3 : rItems r0 = rItems (cRd c)) (h4 : rSightTold r0 = b2i si) : CPost tx L c (rX r0 (nI b) (nI (tE tx L b)) k n) t' (pEnd tx L b T ya si) := by
  refine ⟨h1, h2, h3, ?_⟩
  unfold pEnd
  by_cases h : tK tx L b = 3
  · rw [decide_eq_true h]
    exact ⟨tK_lt h, rfl, h4, hS⟩
  · rw [decide_eq_false h]
    exact ⟨rfl, hb⟩
theorem pEnd_is (tx : aF) (L b : Nat) (T : aT) (ya : aF) (si : Bool) : isR (pEnd tx L b T ya si) = decide (tK tx L b = 3) := by
  unfold pEnd
  cases decide (tK tx L b = 3) <;> rfl
theorem c_readYards (S : zS) (d : Nat) (sw : Bool) (c : cS) (hm : List zC) {tx : aF} {L b0 it : Nat} {T : aT} {ya : aF} {si : Bool} (hR : RR (cRd c) tx L) (hb0 : b0 ≤ L) (hit : rItems (cRd c) = nI it) (hil : it ≤ L) (hsi : rSightTold (cRd c) = b2i si) (hS : SRel (cSp c) T ya) (k n : Int32) : ∃ r' t', Ex S (d + 4) 0 0 11 [.ref 1] (hC sw (s_cRd c (rX (cRd c) (nI b0) (nI (tE tx L b0)) k n)), hm) (some (.int (b2i (isR (pYar tx L b0 T ya si it))))) (hC sw (s_cSp (s_cRd c r') t'), hm) ∧ CPost tx L c r' t' (pYar tx L b0 T ya si it) := by
  have hL := hR.1
  have hnum := n_num S d sw c hm hR hb0 (nI b0) k n (lo := 2) (hi := 10) (by decide) (by decide)
  unfold pYar
  by_cases h0 : it = 0
  · rw [decide_eq_true h0]
    simp only [cond_true]
    cases hg : rng tx L (nb tx L b0) 2 10 with
    | false =>
      rw [hg] at hnum
      refine ⟨rX (cRd c) (nI (nb tx L b0)) (nI (tE tx L (nb tx L b0))) (nI (tK tx L (nb tx L b0))) (nI (tN tx L (nb tx L b0))), cSp c, ?_, ⟨rfl, rfl, rfl, rfl, (nb_le tx hb0).2⟩⟩
      cases sw
      all_goals
        (refine exI rfl rfl ?_; intro X hX)
        repeat refine hX _ _ _ _ _ _ _ _ _ _ _ _ _ _ rfl ?_
        refine br_f (show ¬ 0 < rItems (cRd c) from by rw [hit, h0]; decide) ?_
        repeat refine hX _ _ _ _ _ _ _ _ _ _ _ _ _ _ rfl ?_
        refine Or.inl ⟨_, _, hnum, ?_⟩
        repeat refine hX _ _ _ _ _ _ _ _ _ _ _ _ _ _ rfl ?_
        refine br_f (show ¬ ¬ b2i false = 0 by decide) ?_
        repeat refine hX _ _ _ _ _ _ _ _ _ _ _ _ _ _ rfl ?_
        exact ⟨Or.inl rfl, rfl, rfl⟩
    | true =>
      rw [hg] at hnum
      have hb1 := nb_le tx hb0
      have hstp := n_stop S d sw (s_cSp c (s_tYards (cSp c) (nI (tN tx L (nb tx L b0))))) hm hR hb1.2 (nI (nb tx L b0)) (nI (tK tx L (nb tx L b0))) (nI (tN tx L (nb tx L b0)))
      simp only [cond_true, pEnd_is]
      refine ⟨_, _, ?_, pEnd_post (tx := tx) (T := tYar T (tN tx L (nb tx L b0))) (nb_le tx hb1.2).2 (t' := s_tYards (cSp c) (nI (tN tx L (nb tx L b0)))) (k := nI (tK tx L (nb tx L (nb tx L b0)))) (n := nI (tN tx L (nb tx L b0))) ⟨rfl, hS.2⟩ (cRd c) rfl rfl rfl hsi⟩
      cases sw
      all_goals
        (refine exI rfl rfl ?_; intro X hX)
        repeat refine hX _ _ _ _ _ _ _ _ _ _ _ _ _ _ rfl ?_
        refine br_f (show ¬ 0 < rItems (cRd c) from by rw [hit, h0]; decide) ?_
        repeat refine hX _ _ _ _ _ _ _ _ _ _ _ _ _ _ rfl ?_
        refine Or.inl ⟨_, _, hnum, ?_⟩
        repeat refine hX _ _ _ _ _ _ _ _ _ _ _ _ _ _ rfl ?_
        refine br_t (show ¬ b2i true = 0 by decide) ?_
        repeat refine hX _ _ _ _ _ _ _ _ _ _ _ _ _ _ rfl ?_
        refine Or.inl ⟨_, _, hstp, ?_⟩
        repeat refine hX _ _ _ _ _ _ _ _ _ _ _ _ _ _ rfl ?_
        exact ⟨b2i_01 _, rfl, rfl⟩
  · rw [decide_eq_false h0]
    refine ⟨rX (cRd c) (nI b0) (nI (tE tx L b0)) k n, cSp c, ?_, ⟨rfl, rfl, rfl, rfl, hb0⟩⟩
    cases sw
    all_goals
      (refine exI rfl rfl ?_; intro X hX)
      repeat refine hX _ _ _ _ _ _ _ _ _ _ _ _ _ _ rfl ?_
      refine br_t (show 0 < rItems (cRd c) from by rw [hit]; exact nI_lt (a := 0) (by omega) (by omega)) ?_
      repeat refine hX _ _ _ _ _ _ _ _ _ _ _ _ _ _ rfl ?_
      exact ⟨Or.inl rfl, rfl, rfl⟩
theorem c_readSight (S : zS) (d : Nat) (sw : Bool) (c : cS) (hm : List zC) {tx : aF} {L b0 : Nat} {T : aT} {ya : aF} {si : Bool} (hR : RR (cRd c) tx L) (hb0 : b0 ≤ L) (hsi : rSightTold (cRd c) = b2i si) (hS : SRel (cSp c) T ya) (k n : Int32) : ∃ r' t', Ex S (d + 4) 0 0 12 [.ref 1] (hC sw (s_cRd c (rX (cRd c) (nI b0) (nI (tE tx L b0)) k n)), hm) (some (.int (b2i (isR (pSig tx L b0 T ya si))))) (hC sw (s_cSp (s_cRd c r') t'), hm) ∧ CPost tx L c r' t' (pSig tx L b0 T ya si) := by
  have hL := hR.1
  have hnum := n_num S d sw c hm hR hb0 (nI b0) k n (lo := 0) (hi := 3) (by decide) (by decide)
  unfold pSig
  cases si with
  | true =>
    refine ⟨rX (cRd c) (nI b0) (nI (tE tx L b0)) k n, cSp c, ?_, ⟨rfl, rfl, rfl, rfl, hb0⟩⟩
    cases sw
    all_goals
      (refine exI rfl rfl ?_; intro X hX)
      repeat refine hX _ _ _ _ _ _ _ _ _ _ _ _ _ _ rfl ?_
      refine br_t (show ¬ rSightTold (cRd c) = 0 from by rw [hsi]; decide) ?_
      repeat refine hX _ _ _ _ _ _ _ _ _ _ _ _ _ _ rfl ?_
      exact ⟨Or.inl rfl, rfl, rfl⟩
  | false =>
    simp only [cond_false]
    cases hg : rng tx L (nb tx L b0) 0 3 with
    | false =>
      rw [hg] at hnum
      refine ⟨rX (cRd c) (nI (nb tx L b0)) (nI (tE tx L (nb tx L b0))) (nI (tK tx L (nb tx L b0))) (nI (tN tx L (nb tx L b0))), cSp c, ?_, ⟨rfl, rfl, rfl, rfl, (nb_le tx hb0).2⟩⟩
      cases sw
      all_goals
        (refine exI rfl rfl ?_; intro X hX)
        repeat refine hX _ _ _ _ _ _ _ _ _ _ _ _ _ _ rfl ?_
        refine br_f (show ¬ ¬ rSightTold (cRd c) = 0 from by rw [hsi]; decide) ?_
        repeat refine hX _ _ _ _ _ _ _ _ _ _ _ _ _ _ rfl ?_
        refine Or.inl ⟨_, _, hnum, ?_⟩
        repeat refine hX _ _ _ _ _ _ _ _ _ _ _ _ _ _ rfl ?_
        refine br_f (show ¬ ¬ b2i false = 0 by decide) ?_
        repeat refine hX _ _ _ _ _ _ _ _ _ _ _ _ _ _ rfl ?_
        exact ⟨Or.inl rfl, rfl, rfl⟩
    | true =>
      rw [hg] at hnum
      have hb1 := nb_le tx hb0
      have hstp := n_stop S d sw (s_cRd (s_cSp c (s_tSight (cSp c) (nI (tN tx L (nb tx L b0))))) (s_rSightTold (cRd c) 1)) hm hR hb1.2 (nI (nb tx L b0)) (nI (tK tx L (nb tx L b0))) (nI (tN tx L (nb tx L b0)))
      simp only [cond_true, pEnd_is]
      refine ⟨_, _, ?_, pEnd_post (tx := tx) (si := true) (T := tSig T (tN tx L (nb tx L b0))) (nb_le tx hb1.2).2 (t' := s_tSight (cSp c) (nI (tN tx L (nb tx L b0)))) (k := nI (tK tx L (nb tx L (nb tx L b0)))) (n := nI (tN tx L (nb tx L b0))) ⟨hS.1, rfl, hS.2.2⟩ (s_rSightTold (cRd c) 1) rfl rfl rfl rfl⟩
      cases sw
      all_goals
        (refine exI rfl rfl ?_; intro X hX)
        repeat refine hX _ _ _ _ _ _ _ _ _ _ _ _ _ _ rfl ?_
        refine br_f (show ¬ ¬ rSightTold (cRd c) = 0 from by rw [hsi]; decide) ?_
        repeat refine hX _ _ _ _ _ _ _ _ _ _ _ _ _ _ rfl ?_
        refine Or.inl ⟨_, _, hnum, ?_⟩
        repeat refine hX _ _ _ _ _ _ _ _ _ _ _ _ _ _ rfl ?_
        refine br_t (show ¬ b2i true = 0 by decide) ?_
        repeat refine hX _ _ _ _ _ _ _ _ _ _ _ _ _ _ rfl ?_
        refine ⟨Or.inr rfl, ?_⟩
        repeat refine hX _ _ _ _ _ _ _ _ _ _ _ _ _ _ rfl ?_
        refine Or.inl ⟨_, _, hstp, ?_⟩
        repeat refine hX _ _ _ _ _ _ _ _ _ _ _ _ _ _ rfl ?_
        exact ⟨b2i_01 _, rfl, rfl⟩
