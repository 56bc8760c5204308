/-! ===== the class: what is done, and undone ===== -/
/-- the row moved down by one, as far as n -/
def shl (f : cF) (n : Nat) : cF := fun i => if i < n then f (i + 1) else f i
theorem shl_0 (f : cF) : shl f 0 = f := by funext i; simp [shl]
theorem shl_s (f : cF) (n : Nat) : upd (shl f n) n (shl f n (n + 1)) = shl f (n + 1) := by
  funext i
  unfold upd
  by_cases h : i = n
  · subst h
    simp [shl]
    intro h
    omega
  · rw [if_neg h]
    unfold shl
    by_cases h2 : i < n
    · rw [if_pos h2, if_pos (by omega)]
    · rw [if_neg h2, if_neg (by omega)]
theorem c_loseOldest (S : zS) (d : Nat) (sw : Bool) (c : cS) (hm : List zC) : Ex S (d + 1) 0 0 4 [.ref 24] (hC sw c, hm) none (hC sw (s_cPa c (nI 9, shl (pDeed (cPa c)) 9, shl (pThing (cPa c)) 9, shl (pDetail (cPa c)) 9)), hm) := by
  cases sw
  case false =>
    (refine exI rfl rfl ?_; intro X hX)
    have loop : ∀ (k i : Nat), i + k = 9 → X 2 [some (.ref 24), some (.int (nI (i + 1)))] [] (hC false (s_cPa c (pKnown (cPa c), shl (pDeed (cPa c)) i, shl (pThing (cPa c)) i, shl (pDetail (cPa c)) i)), hm) 0 0 := by
      intro k
      induction k with
      | zero =>
        intro i hi
        have : i = 9 := by omega
        subst this
        repeat refine hX _ _ _ _ _ _ _ _ _ _ _ _ _ _ rfl ?_
        refine br_t (show nI 10 ≤ nI 10 from nI_le (by omega) (by decide)) ?_
        repeat refine hX _ _ _ _ _ _ _ _ _ _ _ _ _ _ rfl ?_
        exact ⟨rfl, rfl⟩
      | succ k ih =>
        intro i hi
        repeat refine hX _ _ _ _ _ _ _ _ _ _ _ _ _ _ rfl ?_
        refine br_f (show ¬ nI 10 ≤ nI (i + 1) from nI_ge (by omega) (by decide)) ?_
        repeat refine hX _ _ _ _ _ _ _ _ _ _ _ _ _ _ rfl ?_
        refine ⟨vp_in_nI (by omega) (by decide), ?_⟩
        rw [nI_clamp (by omega)]
        repeat refine hX _ _ _ _ _ _ _ _ _ _ _ _ _ _ rfl ?_
        rw [nI_pred]
        refine ⟨vp_in_nI (by omega) (by decide), ?_⟩
        rw [nI_clamp (by omega)]
        repeat refine hX _ _ _ _ _ _ _ _ _ _ _ _ _ _ rfl ?_
        refine ⟨vp_in_nI (by omega) (by decide), ?_⟩
        rw [nI_clamp (by omega)]
        repeat refine hX _ _ _ _ _ _ _ _ _ _ _ _ _ _ rfl ?_
        rw [nI_pred]
        refine ⟨vp_in_nI (by omega) (by decide), ?_⟩
        rw [nI_clamp (by omega)]
        repeat refine hX _ _ _ _ _ _ _ _ _ _ _ _ _ _ rfl ?_
        refine ⟨vp_in_nI (by omega) (by decide), ?_⟩
        rw [nI_clamp (by omega)]
        repeat refine hX _ _ _ _ _ _ _ _ _ _ _ _ _ _ rfl ?_
        rw [nI_pred]
        refine ⟨vp_in_nI (by omega) (by decide), ?_⟩
        rw [nI_clamp (by omega)]
        iterate 2 (refine hX _ _ _ _ _ _ _ _ _ _ _ _ _ _ rfl ?_)
        rw [nI_1]
        have h7 := ih (i + 1) (by omega)
        rw [← shl_s, ← shl_s, ← shl_s] at h7
        exact h7
    iterate 2 (refine hX _ _ _ _ _ _ _ _ _ _ _ _ _ _ rfl ?_)
    have h8 := loop 9 0 (by omega)
    rw [shl_0, shl_0, shl_0] at h8
    exact h8
  case true =>
    (refine exI rfl rfl ?_; intro X hX)
    have loop : ∀ (k i : Nat), i + k = 9 → X 2 [some (.ref 24), some (.int (nI (i + 1)))] [] (hC true (s_cPa c (pKnown (cPa c), shl (pDeed (cPa c)) i, shl (pThing (cPa c)) i, shl (pDetail (cPa c)) i)), hm) 0 0 := by
      intro k
      induction k with
      | zero =>
        intro i hi
        have : i = 9 := by omega
        subst this
        repeat refine hX _ _ _ _ _ _ _ _ _ _ _ _ _ _ rfl ?_
        refine br_t (show nI 10 ≤ nI 10 from nI_le (by omega) (by decide)) ?_
        repeat refine hX _ _ _ _ _ _ _ _ _ _ _ _ _ _ rfl ?_
        exact ⟨rfl, rfl⟩
      | succ k ih =>
        intro i hi
        repeat refine hX _ _ _ _ _ _ _ _ _ _ _ _ _ _ rfl ?_
        refine br_f (show ¬ nI 10 ≤ nI (i + 1) from nI_ge (by omega) (by decide)) ?_
        repeat refine hX _ _ _ _ _ _ _ _ _ _ _ _ _ _ rfl ?_
        refine ⟨vp_in_nI (by omega) (by decide), ?_⟩
        rw [nI_clamp (by omega)]
        repeat refine hX _ _ _ _ _ _ _ _ _ _ _ _ _ _ rfl ?_
        rw [nI_pred]
        refine ⟨vp_in_nI (by omega) (by decide), ?_⟩
        rw [nI_clamp (by omega)]
        repeat refine hX _ _ _ _ _ _ _ _ _ _ _ _ _ _ rfl ?_
        refine ⟨vp_in_nI (by omega) (by decide), ?_⟩
        rw [nI_clamp (by omega)]
        repeat refine hX _ _ _ _ _ _ _ _ _ _ _ _ _ _ rfl ?_
        rw [nI_pred]
        refine ⟨vp_in_nI (by omega) (by decide), ?_⟩
        rw [nI_clamp (by omega)]
        repeat refine hX _ _ _ _ _ _ _ _ _ _ _ _ _ _ rfl ?_
        refine ⟨vp_in_nI (by omega) (by decide), ?_⟩
        rw [nI_clamp (by omega)]
        repeat refine hX _ _ _ _ _ _ _ _ _ _ _ _ _ _ rfl ?_
        rw [nI_pred]
        refine ⟨vp_in_nI (by omega) (by decide), ?_⟩
        rw [nI_clamp (by omega)]
        iterate 2 (refine hX _ _ _ _ _ _ _ _ _ _ _ _ _ _ rfl ?_)
        rw [nI_1]
        have h7 := ih (i + 1) (by omega)
        rw [← shl_s, ← shl_s, ← shl_s] at h7
        exact h7
    iterate 2 (refine hX _ _ _ _ _ _ _ _ _ _ _ _ _ _ rfl ?_)
    have h8 := loop 9 0 (by omega)
    rw [shl_0, shl_0, shl_0] at h8
    exact h8
def pAdd (p : cP) (k : Nat) (dd t e : Int32) : cP := if k = 10 then (nI 10, upd (shl (pDeed p) 9) 9 dd, upd (shl (pThing p) 9) 9 t, upd (shl (pDetail p) 9) 9 e) else (nI (k + 1), upd (pDeed p) k dd, upd (pThing p) k t, upd (pDetail p) k e)
theorem c_add (S : zS) (d : Nat) (sw : Bool) (c : cS) (hm : List zC) {k : Nat} (hk : pKnown (cPa c) = nI k) (h10 : k ≤ 10) (dd t e : Int32) : Ex S (d + 2) 0 0 3 [.ref 24, .int dd, .int t, .int e] (hC sw c, hm) none (hC sw (s_cPa c (pAdd (cPa c) k dd t e)), hm) := by
  have hlo := c_loseOldest S d sw c hm
  unfold pAdd
  by_cases h : k = 10
  · subst h
    rw [if_pos rfl]
    cases sw
    all_goals
      (refine exI rfl rfl ?_; intro X hX)
      repeat refine hX _ _ _ _ _ _ _ _ _ _ _ _ _ _ rfl ?_
      rw [hk]
      refine br_f (show ¬ nI 10 < nI 10 from nI_nlt (by omega) (by decide)) ?_
      repeat refine hX _ _ _ _ _ _ _ _ _ _ _ _ _ _ rfl ?_
      refine Or.inl ⟨_, _, hlo, ?_⟩
      repeat refine hX _ _ _ _ _ _ _ _ _ _ _ _ _ _ rfl ?_
      refine ⟨vp_in_nI (by omega) (by decide), ?_⟩
      rw [nI_clamp (by omega)]
      repeat refine hX _ _ _ _ _ _ _ _ _ _ _ _ _ _ rfl ?_
      refine ⟨vp_in_nI (by omega) (by decide), ?_⟩
      rw [nI_clamp (by omega)]
      repeat refine hX _ _ _ _ _ _ _ _ _ _ _ _ _ _ rfl ?_
      refine ⟨vp_in_nI (by omega) (by decide), ?_⟩
      rw [nI_clamp (by omega)]
      repeat refine hX _ _ _ _ _ _ _ _ _ _ _ _ _ _ rfl ?_
      exact ⟨rfl, rfl⟩
  · rw [if_neg h]
    cases sw
    all_goals
      (refine exI rfl rfl ?_; intro X hX)
      repeat refine hX _ _ _ _ _ _ _ _ _ _ _ _ _ _ rfl ?_
      rw [hk]
      refine br_t (show nI k < nI 10 from nI_lt (by omega) (by decide)) ?_
      repeat refine hX _ _ _ _ _ _ _ _ _ _ _ _ _ _ rfl ?_
      rw [hk]
      refine ⟨vp_in_nI (by omega) (by decide), ?_⟩
      rw [nI_clamp (by omega)]
      repeat refine hX _ _ _ _ _ _ _ _ _ _ _ _ _ _ rfl ?_
      rw [hk]
      refine ⟨vp_in_nI (by omega) (by decide), ?_⟩
      rw [nI_clamp (by omega)]
      repeat refine hX _ _ _ _ _ _ _ _ _ _ _ _ _ _ rfl ?_
      rw [hk]
      refine ⟨vp_in_nI (by omega) (by decide), ?_⟩
      rw [nI_clamp (by omega)]
      repeat refine hX _ _ _ _ _ _ _ _ _ _ _ _ _ _ rfl ?_
      exact ⟨rfl, by rw [hk, nI_1]; rfl⟩
theorem c_takeBack (S : zS) (d : Nat) (sw : Bool) (c : cS) (hm : List zC) {k : Nat} (hk : pKnown (cPa c) = nI (k + 1)) (h10 : k < 10) (ht : vp_in (pThing (cPa c) k) 6) : Ex S (d + 1) 0 0 5 [.ref 24, .ref 21] (hC sw c, hm) none (hC sw (s_cSc (s_cPa c (s_pKnown (cPa c) (nI k))) (tb (pDeed (cPa c) k) (pThing (cPa c) k) (pDetail (cPa c) k) (cSc c))), hm) := by
  unfold tb
  cases sw
  case false =>
    (refine exI rfl rfl ?_; intro X hX)
    repeat refine hX _ _ _ _ _ _ _ _ _ _ _ _ _ _ rfl ?_
    rw [hk]
    refine br_t (show 0 < nI (k + 1) from nI_lt (a := 0) (by omega) (by omega)) ?_
    repeat refine hX _ _ _ _ _ _ _ _ _ _ _ _ _ _ rfl ?_
    rw [hk, nI_pred]
    refine ⟨vp_in_nI (by omega) (by decide), ?_⟩
    rw [nI_clamp (by omega)]
    repeat refine hX _ _ _ _ _ _ _ _ _ _ _ _ _ _ rfl ?_
    refine ⟨vp_in_nI (by omega) (by decide), ?_⟩
    rw [nI_clamp (by omega)]
    repeat refine hX _ _ _ _ _ _ _ _ _ _ _ _ _ _ rfl ?_
    refine ⟨fun h0 => ?_, fun h0 => ⟨fun h1 => ?_, fun h1 => ⟨fun h2 => ?_, fun h2 => ?_⟩⟩⟩
    · repeat refine hX _ _ _ _ _ _ _ _ _ _ _ _ _ _ rfl ?_
      exact ⟨rfl, by rw [if_pos h0]; rfl⟩
    · repeat refine hX _ _ _ _ _ _ _ _ _ _ _ _ _ _ rfl ?_
      exact ⟨rfl, by rw [if_neg h0, if_pos h1]; rfl⟩
    · repeat refine hX _ _ _ _ _ _ _ _ _ _ _ _ _ _ rfl ?_
      refine ⟨ht, ?_⟩
      repeat refine hX _ _ _ _ _ _ _ _ _ _ _ _ _ _ rfl ?_
      refine ⟨vp_in_nI (by omega) (by decide), ?_⟩
      rw [nI_clamp (by omega)]
      repeat refine hX _ _ _ _ _ _ _ _ _ _ _ _ _ _ rfl ?_
      refine ⟨ht, ?_⟩
      repeat refine hX _ _ _ _ _ _ _ _ _ _ _ _ _ _ rfl ?_
      exact ⟨rfl, by rw [if_neg h0, if_neg h1, if_pos h2]; rfl⟩
    · repeat refine hX _ _ _ _ _ _ _ _ _ _ _ _ _ _ rfl ?_
      refine ⟨vp_in_nI (by omega) (by decide), ?_⟩
      rw [nI_clamp (by omega)]
      repeat refine hX _ _ _ _ _ _ _ _ _ _ _ _ _ _ rfl ?_
      refine ⟨ht, ?_⟩
      repeat refine hX _ _ _ _ _ _ _ _ _ _ _ _ _ _ rfl ?_
      exact ⟨rfl, by rw [if_neg h0, if_neg h1, if_neg h2]; rfl⟩
  case true =>
    (refine exI rfl rfl ?_; intro X hX)
    repeat refine hX _ _ _ _ _ _ _ _ _ _ _ _ _ _ rfl ?_
    rw [hk]
    refine br_t (show 0 < nI (k + 1) from nI_lt (a := 0) (by omega) (by omega)) ?_
    repeat refine hX _ _ _ _ _ _ _ _ _ _ _ _ _ _ rfl ?_
    rw [hk, nI_pred]
    refine ⟨vp_in_nI (by omega) (by decide), ?_⟩
    rw [nI_clamp (by omega)]
    repeat refine hX _ _ _ _ _ _ _ _ _ _ _ _ _ _ rfl ?_
    refine ⟨vp_in_nI (by omega) (by decide), ?_⟩
    rw [nI_clamp (by omega)]
    repeat refine hX _ _ _ _ _ _ _ _ _ _ _ _ _ _ rfl ?_
    refine ⟨fun h0 => ?_, fun h0 => ⟨fun h1 => ?_, fun h1 => ⟨fun h2 => ?_, fun h2 => ?_⟩⟩⟩
    · repeat refine hX _ _ _ _ _ _ _ _ _ _ _ _ _ _ rfl ?_
      exact ⟨rfl, by rw [if_pos h0]; rfl⟩
    · repeat refine hX _ _ _ _ _ _ _ _ _ _ _ _ _ _ rfl ?_
      exact ⟨rfl, by rw [if_neg h0, if_pos h1]; rfl⟩
    · repeat refine hX _ _ _ _ _ _ _ _ _ _ _ _ _ _ rfl ?_
      refine ⟨ht, ?_⟩
      repeat refine hX _ _ _ _ _ _ _ _ _ _ _ _ _ _ rfl ?_
      refine ⟨vp_in_nI (by omega) (by decide), ?_⟩
      rw [nI_clamp (by omega)]
      repeat refine hX _ _ _ _ _ _ _ _ _ _ _ _ _ _ rfl ?_
      refine ⟨ht, ?_⟩
      repeat refine hX _ _ _ _ _ _ _ _ _ _ _ _ _ _ rfl ?_
      exact ⟨rfl, by rw [if_neg h0, if_neg h1, if_pos h2]; rfl⟩
    · repeat refine hX _ _ _ _ _ _ _ _ _ _ _ _ _ _ rfl ?_
      refine ⟨vp_in_nI (by omega) (by decide), ?_⟩
      rw [nI_clamp (by omega)]
      repeat refine hX _ _ _ _ _ _ _ _ _ _ _ _ _ _ rfl ?_
      refine ⟨ht, ?_⟩
      repeat refine hX _ _ _ _ _ _ _ _ _ _ _ _ _ _ rfl ?_
      exact ⟨rfl, by rw [if_neg h0, if_neg h1, if_neg h2]; rfl⟩
