/-! ===== the reference: all items, then the town ===== -/
def MTPost (L : Nat) (v : Int32) (rd rr : cF) (res : Sum Nat (Nat × aT × aF)) : Prop := match res with
  | .inl f => v = -10 - nI f ∧ f ≤ L
  | .inr (it, T', ya') => v = nI it ∧ it ≤ L ∧ PWf T' ya' ∧ PRel rd rr T' ya'
theorem m_readLoop (S : zS) (d : Nat) (hc : List zC) (m : mS) {tx : aF} {L : Nat} (hR : QR m tx L) : ∀ (fuel it b : Nat) (rd rr : cF) (T : aT) (ya : aF) (si : Bool) (v3 : Option Value), (v3 = none ∨ ∃ z, v3 = some (.int z)) → b ≤ L → it ≤ b → L < b + fuel → PWf T ya → (it = 0 → aNs T = 0 ∧ aNp T = 0) → PRel rd rr T ya → ∃ v rd' rr' sp be tk vl, (∀ X, z_cl S (Ex S (d + 6)) tX5_readAll false 0 0 (fun v' g' => v' = some (.int v) ∧ g' = (hc, hQ m rd' rr' sp be tk vl)) X → X 73 [some (.ref 1000), some (.int (nI it)), some (.int (b2i si)), v3] [] (hc, hQ m rd rr (nI (tE tx L b)) (nI b) (mTk tx L b) (mVl tx L b)) 0 0) ∧ MTPost L v rd' rr' (pLop tx L fuel it b T ya si) := by
  have hL := hR.1
  intro fuel
  induction fuel with
  | zero =>
    intro it b rd rr T ya si v3 hv hb hib hf
    omega
  | succ fuel ih =>
    intro it b rd rr T ya si v3 hv3 hb hib hf hP h0 hS
    rw [pLop]
    by_cases hk : tK tx L b = 0
    · rw [decide_eq_true hk]
      refine ⟨nI it, rd, rr, nI (tE tx L b), nI b, mTk tx L b, mVl tx L b, ?_, ⟨rfl, by omega, hP, hS⟩⟩
      intro X hX
      repeat refine hX _ _ _ _ _ _ _ _ _ _ _ _ _ _ rfl ?_
      refine br_t (show mTk tx L b = nI 0 from (mTk_k (by decide)).mpr hk) ?_
      repeat refine hX _ _ _ _ _ _ _ _ _ _ _ _ _ _ rfl ?_
      exact ⟨rfl, rfl⟩
    · rw [decide_eq_false hk]
      have hbl : b < L := Classical.not_not.mp fun h => hk (tK_0.mpr h)
      have htx := hR.2.2.1 b hbl
      have htl := hR.2.2.2 b hbl
      have hte := tE_le tx hb
      obtain ⟨sp, be, tk, vl, rd1, rr1, hx, hpo⟩ := m_item S d hc m (it := it) (si := si) hR hbl hP hS
      have hwf := fun bl T' ya' si' => pItm_wf (tx := tx) (L := L) (b0 := b) (si := si) (bl := bl) (T' := T') (ya' := ya') (si' := si') hP h0
      have hbl2 := fun bl T' ya' si' => pItm_b (it := it) (tx := tx) (b0 := b) (T := T) (ya := ya) (si := si) (bl := bl) (T' := T') (ya' := ya') (si' := si') hb
      have key : ∀ (Q : Option Value → zH → Prop) (X : zX), z_cl S (Ex S (d + 6)) tX5_readAll false 0 0 Q X → (∀ w, (decide (tK tx L b = 1) && (decide (tE tx L b - b = 1) && decide (tx b = 118))) = w → X 130 [some (.ref 1000), some (.int (nI it)), some (.int (b2i si)), some (.int (b2i w))] [.int (b2i (isR (pItm tx L b T ya si it)))] (hc, hQ m rd1 rr1 sp be tk vl) 0 0) → X 73 [some (.ref 1000), some (.int (nI it)), some (.int (b2i si)), v3] [] (hc, hQ m rd rr (nI (tE tx L b)) (nI b) (mTk tx L b) (mVl tx L b)) 0 0 := by
        intro Q X hX h130
        have h115 : ∀ w, (decide (tK tx L b = 1) && (decide (tE tx L b - b = 1) && decide (tx b = 118))) = w → X 115 [some (.ref 1000), some (.int (nI it)), some (.int (b2i si)), v3] [.int (b2i w)] (hc, hQ m rd rr (nI (tE tx L b)) (nI b) (mTk tx L b) (mVl tx L b)) 0 0 := by
          intro w hw
          have h130 := h130 w hw
          rcases hv3 with rfl | ⟨z, rfl⟩
          all_goals
            repeat refine hX _ _ _ _ _ _ _ _ _ _ _ _ _ _ rfl ?_
            by_cases hi : it = 0
            · rw [decide_eq_true hi] at hx
              refine br_f (show ¬ ¬ nI it = 0 from fun h => h (congrArg nI hi)) ?_
              repeat refine hX _ _ _ _ _ _ _ _ _ _ _ _ _ _ rfl ?_
              refine Or.inl ⟨_, _, hx, ?_⟩
              exact h130
            · rw [decide_eq_false hi] at hx
              refine br_t (show ¬ nI it = 0 from nI_ne0 (by omega) (by omega)) ?_
              repeat refine hX _ _ _ _ _ _ _ _ _ _ _ _ _ _ rfl ?_
              refine Or.inl ⟨_, _, hx, ?_⟩
              exact h130
        repeat refine hX _ _ _ _ _ _ _ _ _ _ _ _ _ _ rfl ?_
        refine br_f (show ¬ mTk tx L b = nI 0 from fun h => hk ((mTk_k (by decide)).mp h)) ?_
        repeat refine hX _ _ _ _ _ _ _ _ _ _ _ _ _ _ rfl ?_
        by_cases k1 : tK tx L b = 1
        · have hv : mVl tx L b = nI (tE tx L b - b) := by unfold mVl; rw [if_pos k1]
          refine br_f (show ¬ ¬ mTk tx L b = nI 1 from fun h => h ((mTk_k (by decide)).mpr k1)) ?_
          repeat refine hX _ _ _ _ _ _ _ _ _ _ _ _ _ _ rfl ?_
          by_cases he : tE tx L b - b = 1
          · refine br_f (show ¬ ¬ mVl tx L b = nI 1 from by rw [hv, he]; exact fun h => h rfl) ?_
            repeat refine hX _ _ _ _ _ _ _ _ _ _ _ _ _ _ rfl ?_
            refine ⟨vp_in_nI (by omega) (by decide), ?_⟩
            rw [nI_clamp (by omega)]
            rw [htx]
            repeat refine hX _ _ _ _ _ _ _ _ _ _ _ _ _ _ rfl ?_
            by_cases h8 : tx b = 118
            · refine br_f (show ¬ ¬ nI (tx b) = nI 118 from fun h => h (congrArg nI h8)) ?_
              iterate 2 (refine hX _ _ _ _ _ _ _ _ _ _ _ _ _ _ rfl ?_)
              exact h115 true (by rw [decide_eq_true k1, decide_eq_true he, decide_eq_true h8]; rfl)
            · refine br_t (show ¬ nI (tx b) = nI 118 from fun h => h8 ((nI_eq (by omega) (by decide)).mp h)) ?_
              iterate 1 (refine hX _ _ _ _ _ _ _ _ _ _ _ _ _ _ rfl ?_)
              exact h115 false (by rw [decide_eq_false h8, Bool.and_false, Bool.and_false])
          · refine br_t (show ¬ mVl tx L b = nI 1 from by rw [hv]; exact fun h => he ((nI_eq (by omega) (by decide)).mp h)) ?_
            iterate 1 (refine hX _ _ _ _ _ _ _ _ _ _ _ _ _ _ rfl ?_)
            exact h115 false (by rw [decide_eq_false he, Bool.false_and, Bool.and_false])
        · refine br_t (show ¬ mTk tx L b = nI 1 from fun h => k1 ((mTk_k (by decide)).mp h)) ?_
          iterate 1 (refine hX _ _ _ _ _ _ _ _ _ _ _ _ _ _ rfl ?_)
          exact h115 false (by rw [decide_eq_false k1, Bool.false_and])
      cases hres : pItm tx L b T ya si it with
      | inl f =>
        rw [hres] at key hpo
        obtain ⟨g1, g2⟩ := hpo
        refine ⟨-10 - nI f, rd1, rr1, sp, be, tk, vl, ?_, ⟨rfl, g2⟩⟩
        intro X hX
        refine key _ X hX fun w hw => ?_
        repeat refine hX _ _ _ _ _ _ _ _ _ _ _ _ _ _ rfl ?_
        refine br_f (show ¬ ¬ b2i false = 0 by decide) ?_
        repeat refine hX _ _ _ _ _ _ _ _ _ _ _ _ _ _ rfl ?_
        exact ⟨by rw [g1], rfl⟩
      | inr w =>
        obtain ⟨bl, T', ya', si'⟩ := w
        rw [hres] at key hpo
        obtain ⟨g1, g2, g3⟩ := hpo
        have hP' := hwf bl T' ya' si' hres
        have hb3 := hbl2 bl T' ya' si' hres
        have hsi := pItm_si hres
        have hte := tE_le tx (Nat.le_of_lt g1)
        have hte2 := hte.2.2 g1
        have hnb : tE tx L bl ≤ nb tx L bl ∧ nb tx L bl ≤ L := nb_le tx (Nat.le_of_lt g1)
        have hnx := m_next S (d + 3) hc m hR (p := tE tx L bl) (b := nb tx L bl) hte.2.1 rfl rd1 rr1 be tk vl
        rw [← g2] at hnx
        obtain ⟨v, rd', rr', sp', be', tk', vl', hrun, hpp⟩ := ih (it + 1) (nb tx L bl) rd1 rr1 T' ya' si' (some (.int (b2i (decide (tK tx L b = 1) && (decide (tE tx L b - b = 1) && decide (tx b = 118)))))) (Or.inr ⟨_, rfl⟩) hnb.2 (by omega) (by omega) hP' (fun h => by omega) g3
        refine ⟨v, rd', rr', sp', be', tk', vl', ?_, hpp⟩
        intro X hX
        have h73 := hrun X hX
        refine key _ X hX fun w hw => ?_
        rw [hw] at hsi h73
        rw [← nI_1] at h73
        repeat refine hX _ _ _ _ _ _ _ _ _ _ _ _ _ _ rfl ?_
        refine br_t (show ¬ b2i true = 0 by decide) ?_
        repeat refine hX _ _ _ _ _ _ _ _ _ _ _ _ _ _ rfl ?_
        cases si with
        | true =>
          rw [← hsi, Bool.true_or] at h73
          refine br_t (show ¬ b2i true = 0 by decide) ?_
          repeat refine hX _ _ _ _ _ _ _ _ _ _ _ _ _ _ rfl ?_
          refine Or.inl ⟨_, _, hnx, ?_⟩
          iterate 1 (refine hX _ _ _ _ _ _ _ _ _ _ _ _ _ _ rfl ?_)
          exact h73
        | false =>
          rw [Bool.false_or] at hsi
          refine br_f (show ¬ ¬ b2i false = 0 by decide) ?_
          repeat refine hX _ _ _ _ _ _ _ _ _ _ _ _ _ _ rfl ?_
          cases w with
          | true =>
            rw [← hsi] at h73
            refine br_f (show ¬ b2i true = 0 by decide) ?_
            repeat refine hX _ _ _ _ _ _ _ _ _ _ _ _ _ _ rfl ?_
            refine Or.inl ⟨_, _, hnx, ?_⟩
            iterate 1 (refine hX _ _ _ _ _ _ _ _ _ _ _ _ _ _ rfl ?_)
            exact h73
          | false =>
            rw [← hsi] at h73
            refine br_t (show b2i false = 0 from rfl) ?_
            repeat refine hX _ _ _ _ _ _ _ _ _ _ _ _ _ _ rfl ?_
            refine Or.inl ⟨_, _, hnx, ?_⟩
            iterate 1 (refine hX _ _ _ _ _ _ _ _ _ _ _ _ _ _ rfl ?_)
            exact h73
def rd0 (i : Nat) : Int32 := if i = 0 then 6 else if i = 3 then 1 else 0
theorem m_readAll (S : zS) (d : Nat) (hc : List zC) (m : mS) {tx : aF} {L : Nat} (hR : QR m tx L) (rd rr : cF) (a b c e : Int32) : ∃ v rd' rr' sp be tk vl, Ex S (d + 7) 0 0 106 [.ref 1000] (hc, hQ m rd rr a b c e) (some (.int v)) (hc, hQ m rd' rr' sp be tk vl) ∧ MTPost L v rd' rr' (pLop tx L (L + 1) 0 (tB tx L 0) tT0 (fun _ => 0) false) := by
  have hnx := m_next S (d + 3) hc m hR (p := 0) (Nat.zero_le _) rfl (cpf rd0 rd 40) (cpf (fun _ => 0) rr 19) b c e
  have hP0 : PRel (cpf rd0 rd 40) (cpf (fun _ => 0) rr 19) tT0 (fun _ => 0) := by
    refine ⟨⟨rfl, rfl, rfl, rfl, fun j hj => absurd hj (Nat.not_lt_zero j), fun j hj => absurd hj (Nat.not_lt_zero j)⟩, fun j hj => absurd hj (Nat.not_lt_zero j), fun j h1 h2 => ?_⟩
    rw [cpf, if_pos h2]
  obtain ⟨v, rd', rr', sp, be, tk, vl, hrun, hpo⟩ := m_readLoop S d hc m hR (L + 1) 0 (tB tx L 0) _ _ tT0 (fun _ => 0) false none (Or.inl rfl) (tB_le tx (Nat.zero_le L)).2 (Nat.zero_le _) (by omega) ⟨⟨by decide, by decide, by decide, by decide, by decide, fun j hj => absurd hj (Nat.not_lt_zero j), fun j hj => absurd hj (Nat.not_lt_zero j)⟩, fun j hj => absurd hj (Nat.not_lt_zero j), fun j hj => absurd hj (Nat.not_lt_zero j)⟩ (fun _ => ⟨rfl, rfl⟩) hP0
  refine ⟨v, rd', rr', sp, be, tk, vl, ?_, hpo⟩
  (refine exI rfl rfl ?_; intro X hX)
  have h73 := hrun X hX
  have loop2 : ∀ (k i : Nat), i + k = 19 → X 41 [some (.ref 1000), some (.int (nI i)), none, none] [] (hc, hQ m (cpf rd0 rd 40) (cpf (fun _ => 0) rr i) a b c e) 0 0 := by
    intro k
    induction k with
    | zero =>
      intro i hi
      have : i = 19 := by omega
      subst this
      repeat refine hX _ _ _ _ _ _ _ _ _ _ _ _ _ _ rfl ?_
      refine br_t (show nI 19 ≤ nI 19 by decide) ?_
      iterate 4 (refine hX _ _ _ _ _ _ _ _ _ _ _ _ _ _ rfl ?_)
      rw [set_sp]
      repeat refine hX _ _ _ _ _ _ _ _ _ _ _ _ _ _ rfl ?_
      refine Or.inl ⟨_, _, hnx, ?_⟩
      exact h73
    | succ k ih =>
      intro i hi
      have h7 := ih (i + 1) (by omega)
      rw [← cpf_s (fun _ => 0) rr i, ← nI_1] at h7
      repeat refine hX _ _ _ _ _ _ _ _ _ _ _ _ _ _ rfl ?_
      refine br_f (show ¬ nI 19 ≤ nI i from nI_ge (by omega) (by decide)) ?_
      repeat refine hX _ _ _ _ _ _ _ _ _ _ _ _ _ _ rfl ?_
      refine ⟨vp_in_nI (by omega) (by decide), ?_⟩
      rw [nI_clamp (by omega)]
      rw [set_rr]
      iterate 2 (refine hX _ _ _ _ _ _ _ _ _ _ _ _ _ _ rfl ?_)
      exact h7
  have loop1 : ∀ (k i : Nat), i + k = 40 → X 2 [some (.ref 1000), some (.int (nI i)), none, none] [] (hc, hQ m (cpf rd0 rd i) rr a b c e) 0 0 := by
    intro k
    induction k with
    | zero =>
      intro i hi
      have : i = 40 := by omega
      subst this
      have h7 := loop2 19 0 (by omega)
      rw [cpf_0] at h7
      repeat refine hX _ _ _ _ _ _ _ _ _ _ _ _ _ _ rfl ?_
      refine br_t (show nI 40 ≤ nI 40 by decide) ?_
      iterate 2 (refine hX _ _ _ _ _ _ _ _ _ _ _ _ _ _ rfl ?_)
      exact h7
    | succ k ih =>
      intro i hi
      have h7 := ih (i + 1) (by omega)
      rw [← cpf_s, ← nI_1] at h7
      repeat refine hX _ _ _ _ _ _ _ _ _ _ _ _ _ _ rfl ?_
      refine br_f (show ¬ nI 40 ≤ nI i from nI_ge (by omega) (by decide)) ?_
      repeat refine hX _ _ _ _ _ _ _ _ _ _ _ _ _ _ rfl ?_
      by_cases h0 : i = 0
      · rw [show rd0 i = 6 by unfold rd0; rw [if_pos h0]] at h7
        refine br_f (show ¬ ¬ nI i = 0 from fun h => h (congrArg nI h0)) ?_
        repeat refine hX _ _ _ _ _ _ _ _ _ _ _ _ _ _ rfl ?_
        refine ⟨vp_in_nI (by omega) (by decide), ?_⟩
        rw [nI_clamp (by omega)]
        rw [set_rd]
        iterate 2 (refine hX _ _ _ _ _ _ _ _ _ _ _ _ _ _ rfl ?_)
        exact h7
      · refine br_t (show ¬ nI i = 0 from nI_ne0 (by omega) (by omega)) ?_
        repeat refine hX _ _ _ _ _ _ _ _ _ _ _ _ _ _ rfl ?_
        by_cases h3 : i = 3
        · rw [show rd0 i = 1 by unfold rd0; rw [if_neg h0, if_pos h3]] at h7
          refine br_f (show ¬ ¬ nI i = nI 3 from fun h => h (congrArg nI h3)) ?_
          repeat refine hX _ _ _ _ _ _ _ _ _ _ _ _ _ _ rfl ?_
          refine ⟨vp_in_nI (by omega) (by decide), ?_⟩
          rw [nI_clamp (by omega)]
          rw [set_rd]
          iterate 2 (refine hX _ _ _ _ _ _ _ _ _ _ _ _ _ _ rfl ?_)
          exact h7
        · rw [show rd0 i = 0 by unfold rd0; rw [if_neg h0, if_neg h3]] at h7
          refine br_t (show ¬ nI i = nI 3 from fun h => h3 ((nI_eq (by omega) (by decide)).mp h)) ?_
          repeat refine hX _ _ _ _ _ _ _ _ _ _ _ _ _ _ rfl ?_
          refine ⟨vp_in_nI (by omega) (by decide), ?_⟩
          rw [nI_clamp (by omega)]
          rw [set_rd]
          iterate 2 (refine hX _ _ _ _ _ _ _ _ _ _ _ _ _ _ rfl ?_)
          exact h7
  have h7 := loop1 40 0 (by omega)
  rw [cpf_0] at h7
  iterate 2 (refine hX _ _ _ _ _ _ _ _ _ _ _ _ _ _ rfl ?_)
  exact h7
