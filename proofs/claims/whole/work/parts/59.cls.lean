def TPost (tx : aF) (L : Nat) (c : cS) (v : Int32) (r' : cR) (t' : cT) (res : Sum Nat (Nat × aT × aF)) : Prop := rLetters r' = rLetters (cRd c) ∧ rText r' = rText (cRd c) ∧ match res with
  | .inl f => v = -10 - nI f ∧ f ≤ L
  | .inr (it, T', ya') => v = nI it ∧ it ≤ L ∧ PWf T' ya' ∧ TRel t' T' ∧ ∀ j, j < aNs T' → tStands t' j = nI (ya' j)
theorem tK_0 {tx : aF} {L b : Nat} : tK tx L b = 0 ↔ ¬ b < L := by
  unfold tK
  by_cases h : b < L
  · rw [if_pos h]
    have := (kOf_le (tx b)).1
    omega
  · rw [if_neg h]
    simp [h]
theorem c_readLoop (S : zS) (d : Nat) (sw : Bool) (c : cS) (hm : List zC) {tx : aF} {L : Nat} (hR : RR (cRd c) tx L) : ∀ (fuel it p : Nat) (r : cR) (t : cT) (T : aT) (ya : aF) (si : Bool), rLetters r = rLetters (cRd c) → rText r = rText (cRd c) → rItems r = nI it → rSightTold r = b2i si → rNext r = nI p → p ≤ L → it ≤ p → L < tB tx L p + fuel → PWf T ya → (it = 0 → aNs T = 0 ∧ aNp T = 0) → SRel t T ya → ∃ v r' t', (∀ X, z_cl S (Ex S (d + 5)) tX1_readTown false 0 0 (fun v' g' => v' = some (.int v) ∧ g' = (hC sw (s_cSp (s_cRd c r') t'), hm)) X → X 22 [some (.ref 1)] [] (hC sw (s_cSp (s_cRd c r) t), hm) 0 0) ∧ TPost tx L c v r' t' (pLop tx L fuel it (tB tx L p) T ya si) := by
  have hL := hR.1
  intro fuel
  induction fuel with
  | zero =>
    intro it p r t T ya si e1 e2 e3 e4 e5 hp hip hf
    have := (tB_le tx hp).2
    omega
  | succ fuel ih =>
    intro it p r t T ya si e1 e2 e3 e4 e5 hp hip hf hP h0 hS
    have hb := tB_le tx hp
    have hR' : RR r tx L := ⟨hR.1, by rw [e1]; exact hR.2.1, by rw [e2]; exact hR.2.2.1, hR.2.2.2⟩
    have htk := c_readToken S (d + 3) sw (s_cSp (s_cRd c r) t) hm (tx := tx) (L := L) (p := p) hR' e5 hp
    generalize hbb : tB tx L p = b at *
    rw [pLop]
    by_cases hk : tK tx L b = 0
    · rw [decide_eq_true hk]
      have hfi := c_findInsulted S (d + 3) sw (s_cSp (s_cRd c (rT r (nI b) (nI (tE tx L b)) (nI (tK tx L b)))) t) hm hP.1 hS
      refine ⟨nI it, rT r (nI b) (nI (tE tx L b)) (nI (tK tx L b)), s_tInsulted t (fIns (tInsulted t) T (aNs T)), ?_, ⟨e1, e2, rfl, by omega, hP, ⟨hS.1, hS.2.1, hS.2.2.1, hS.2.2.2.1, fun j hj => ⟨(hS.2.2.2.2.1 j hj).2.1, (hS.2.2.2.2.1 j hj).2.2, ?_⟩, hS.2.2.2.2.2⟩, fun j hj => (hS.2.2.2.2.1 j hj).1⟩⟩
      · intro X hX
        cases sw
        all_goals
          repeat refine hX _ _ _ _ _ _ _ _ _ _ _ _ _ _ rfl ?_
          refine br_f (show ¬ rLetters r < rItems r from by rw [e1, e3, hR.2.1]; exact nI_nlt (by omega) (by omega)) ?_
          repeat refine hX _ _ _ _ _ _ _ _ _ _ _ _ _ _ rfl ?_
          refine Or.inl ⟨_, _, htk, ?_⟩
          repeat refine hX _ _ _ _ _ _ _ _ _ _ _ _ _ _ rfl ?_
          refine br_f (show ¬ ¬ nI (tK tx L b) = 0 from fun h => h (congrArg nI hk)) ?_
          repeat refine hX _ _ _ _ _ _ _ _ _ _ _ _ _ _ rfl ?_
          refine Or.inl ⟨_, _, hfi, ?_⟩
          repeat refine hX _ _ _ _ _ _ _ _ _ _ _ _ _ _ rfl ?_
          exact ⟨by rw [← e3], rfl⟩
      · show fIns (tInsulted t) T (aNs T) j = _
        unfold fIns
        rw [if_pos hj]
        rfl
    · rw [decide_eq_false hk]
      have hbl : b < L := Classical.not_not.mp fun h => hk (tK_0.mpr h)
      have htkl := tK_le tx L b
      obtain ⟨r1, t1, hx, hpo⟩ := c_readItem S d sw (s_cSp (s_cRd c r) t) hm (tx := tx) (L := L) (b0 := b) (it := it) hR' hbl e3 (by omega) e4 hP hS (rNumber r)
      have hwf := fun bl T' ya' si' => pItm_wf (tx := tx) (L := L) (b0 := b) (si := si) (bl := bl) (T' := T') (ya' := ya') (si' := si') hP h0
      have hbl2 := fun bl T' ya' si' => pItm_b (it := it) (tx := tx) (b0 := b) (T := T) (ya := ya) (si := si) (bl := bl) (T' := T') (ya' := ya') (si' := si') hb.2
      cases hres : pItm tx L b T ya si it with
      | inl f =>
        rw [hres] at hx hpo
        obtain ⟨g1, g2, g3, g4, g5⟩ := hpo
        refine ⟨-10 - nI f, r1, t1, ?_, ⟨g1.trans e1, g2.trans e2, rfl, g5⟩⟩
        intro X hX
        cases sw
        all_goals
          repeat refine hX _ _ _ _ _ _ _ _ _ _ _ _ _ _ rfl ?_
          refine br_f (show ¬ rLetters r < rItems r from by rw [e1, e3, hR.2.1]; exact nI_nlt (by omega) (by omega)) ?_
          repeat refine hX _ _ _ _ _ _ _ _ _ _ _ _ _ _ rfl ?_
          refine Or.inl ⟨_, _, htk, ?_⟩
          repeat refine hX _ _ _ _ _ _ _ _ _ _ _ _ _ _ rfl ?_
          refine br_t (show ¬ nI (tK tx L b) = 0 from nI_ne0 (by omega) (by omega)) ?_
          repeat refine hX _ _ _ _ _ _ _ _ _ _ _ _ _ _ rfl ?_
          refine Or.inl ⟨_, _, hx, ?_⟩
          repeat refine hX _ _ _ _ _ _ _ _ _ _ _ _ _ _ rfl ?_
          refine br_f (show ¬ ¬ b2i false = 0 by decide) ?_
          repeat refine hX _ _ _ _ _ _ _ _ _ _ _ _ _ _ rfl ?_
          exact ⟨by rw [← g4], rfl⟩
      | inr w =>
        obtain ⟨bl, T', ya', si'⟩ := w
        rw [hres] at hx hpo
        obtain ⟨g1, g2, g3, g4, g5, g6, g7⟩ := hpo
        have hP' := hwf bl T' ya' si' hres
        have hb3 := hbl2 bl T' ya' si' hres
        have hte := tE_le tx (Nat.le_of_lt hb3.2)
        have hte2 := hte.2.2 hb3.2
        have hnb : tE tx L bl ≤ tB tx L (tE tx L bl) ∧ tB tx L (tE tx L bl) ≤ L := nb_le tx (Nat.le_of_lt hb3.2)
        obtain ⟨v, r', t', hrun, hpp⟩ := ih (it + 1) (tE tx L bl) (s_rItems r1 (nI (it + 1))) t1 T' ya' si' (g1.trans e1) (g2.trans e2) rfl g6 g5 hte.2.1 (by omega) (by omega) hP' (fun h => by omega) g7
        refine ⟨v, r', t', ?_, hpp⟩
        intro X hX
        have h22 := hrun X hX
        rw [← nI_1, ← e3, ← show rItems r1 = rItems r from g3] at h22
        cases sw
        all_goals
          repeat refine hX _ _ _ _ _ _ _ _ _ _ _ _ _ _ rfl ?_
          refine br_f (show ¬ rLetters r < rItems r from by rw [e1, e3, hR.2.1]; exact nI_nlt (by omega) (by omega)) ?_
          repeat refine hX _ _ _ _ _ _ _ _ _ _ _ _ _ _ rfl ?_
          refine Or.inl ⟨_, _, htk, ?_⟩
          repeat refine hX _ _ _ _ _ _ _ _ _ _ _ _ _ _ rfl ?_
          refine br_t (show ¬ nI (tK tx L b) = 0 from nI_ne0 (by omega) (by omega)) ?_
          repeat refine hX _ _ _ _ _ _ _ _ _ _ _ _ _ _ rfl ?_
          refine Or.inl ⟨_, _, hx, ?_⟩
          repeat refine hX _ _ _ _ _ _ _ _ _ _ _ _ _ _ rfl ?_
          refine br_t (show ¬ b2i true = 0 by decide) ?_
          iterate 7 (refine hX _ _ _ _ _ _ _ _ _ _ _ _ _ _ rfl ?_)
          exact h22
