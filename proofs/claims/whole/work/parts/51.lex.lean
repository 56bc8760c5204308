/-! ===== a text's tokens, by their places ===== -/
def kOf (c : Nat) : Nat := if 97 ≤ c ∧ c ≤ 122 then 1 else if 48 ≤ c ∧ c ≤ 57 then 2 else if c = 59 then 3 else 4
def skp (tx : aF) : Nat → Nat → Nat
  | 0, p => p
  | n + 1, p => if tx p = 32 then skp tx n (p + 1) else p
def scn (tx : aF) (k : Nat) : Nat → Nat → Nat
  | 0, p => p
  | n + 1, p => if kOf (tx p) = k then scn tx k n (p + 1) else p
def tB (tx : aF) (L p : Nat) : Nat := skp tx (L - p) p
def tK (tx : aF) (L b : Nat) : Nat := if b < L then kOf (tx b) else 0
def tE (tx : aF) (L b : Nat) : Nat := if b < L then (if kOf (tx b) = 1 ∨ kOf (tx b) = 2 then scn tx (kOf (tx b)) (L - (b + 1)) (b + 1) else b + 1) else b
theorem skp_le (tx : aF) : ∀ n p, p ≤ skp tx n p ∧ skp tx n p ≤ p + n
  | 0, p => ⟨Nat.le_refl _, Nat.le_refl _⟩
  | n + 1, p => by
    rw [skp]
    by_cases h : tx p = 32
    · rw [if_pos h]
      have := skp_le tx n (p + 1)
      omega
    · rw [if_neg h]
      omega
theorem scn_le (tx : aF) (k : Nat) : ∀ n p, p ≤ scn tx k n p ∧ scn tx k n p ≤ p + n
  | 0, p => ⟨Nat.le_refl _, Nat.le_refl _⟩
  | n + 1, p => by
    rw [scn]
    by_cases h : kOf (tx p) = k
    · rw [if_pos h]
      have := scn_le tx k n (p + 1)
      omega
    · rw [if_neg h]
      omega
theorem scn_all (tx : aF) (k : Nat) : ∀ n p i, p ≤ i → i < scn tx k n p → kOf (tx i) = k
  | 0, p, i, h1, h2 => by rw [scn] at h2; omega
  | n + 1, p, i, h1, h2 => by
    rw [scn] at h2
    by_cases h : kOf (tx p) = k
    · rw [if_pos h] at h2
      by_cases hi : i = p
      · rw [hi]; exact h
      · exact scn_all tx k n (p + 1) i (by omega) h2
    · rw [if_neg h] at h2
      omega
theorem tB_le (tx : aF) {L p : Nat} (h : p ≤ L) : p ≤ tB tx L p ∧ tB tx L p ≤ L := by
  have := skp_le tx (L - p) p
  unfold tB
  omega
theorem tE_le (tx : aF) {L b : Nat} (h : b ≤ L) : b ≤ tE tx L b ∧ tE tx L b ≤ L ∧ (b < L → b < tE tx L b) := by
  unfold tE
  by_cases h1 : b < L
  · rw [if_pos h1]
    by_cases h2 : kOf (tx b) = 1 ∨ kOf (tx b) = 2
    · rw [if_pos h2]
      have := scn_le tx (kOf (tx b)) (L - (b + 1)) (b + 1)
      omega
    · rw [if_neg h2]
      omega
  · rw [if_neg h1]
    omega
theorem tE_all (tx : aF) {L b i : Nat} (h1 : b ≤ i) (h2 : i < tE tx L b) : kOf (tx i) = kOf (tx b) := by
  unfold tE at h2
  by_cases h3 : b < L
  · rw [if_pos h3] at h2
    by_cases hi : i = b
    · rw [hi]
    · by_cases h4 : kOf (tx b) = 1 ∨ kOf (tx b) = 2
      · rw [if_pos h4] at h2
        exact scn_all tx _ _ _ i (by omega) h2
      · rw [if_neg h4] at h2
        omega
  · rw [if_neg h3] at h2
    omega
theorem kOf_1 {c : Nat} (h : kOf c = 1) : 97 ≤ c ∧ c ≤ 122 := by
  unfold kOf at h
  by_cases h1 : 97 ≤ c ∧ c ≤ 122
  · exact h1
  · rw [if_neg h1] at h
    by_cases h2 : 48 ≤ c ∧ c ≤ 57
    · rw [if_pos h2] at h; omega
    · rw [if_neg h2] at h
      by_cases h3 : c = 59
      · rw [if_pos h3] at h; omega
      · rw [if_neg h3] at h; omega
theorem kOf_2 {c : Nat} (h : kOf c = 2) : 48 ≤ c ∧ c ≤ 57 := by
  unfold kOf at h
  by_cases h1 : 97 ≤ c ∧ c ≤ 122
  · rw [if_pos h1] at h; omega
  · rw [if_neg h1] at h
    by_cases h2 : 48 ≤ c ∧ c ≤ 57
    · exact h2
    · rw [if_neg h2] at h
      by_cases h3 : c = 59
      · rw [if_pos h3] at h; omega
      · rw [if_neg h3] at h; omega
theorem kOf_le (c : Nat) : 1 ≤ kOf c ∧ kOf c ≤ 4 := by
  unfold kOf
  by_cases h1 : 97 ≤ c ∧ c ≤ 122
  · rw [if_pos h1]; omega
  · rw [if_neg h1]
    by_cases h2 : 48 ≤ c ∧ c ≤ 57
    · rw [if_pos h2]; omega
    · rw [if_neg h2]
      by_cases h3 : c = 59
      · rw [if_pos h3]; omega
      · rw [if_neg h3]; omega
theorem c_kindOf (S : zS) (d : Nat) (h : zH) {c : Nat} (hc : c < 256) : Ex S (d + 1) 0 0 21 [.int (nI c)] h (some (.int (nI (kOf c)))) h := by
  (refine exI rfl rfl ?_; intro X hX)
  have h28 : ¬ (97 ≤ c ∧ c ≤ 122) → ¬ (48 ≤ c ∧ c ≤ 57) → X 28 [some (.int (nI c))] [] h 0 0 := by
    intro n1 n2
    repeat refine hX _ _ _ _ _ _ _ _ _ _ _ _ _ _ rfl ?_
    by_cases h3 : c = 59
    · refine br_f (show ¬ ¬ nI c = nI 59 from fun h => h (congrArg nI h3)) ?_
      repeat refine hX _ _ _ _ _ _ _ _ _ _ _ _ _ _ rfl ?_
      exact ⟨by unfold kOf; rw [if_neg n1, if_neg n2, if_pos h3]; rfl, rfl⟩
    · refine br_t (show ¬ nI c = nI 59 from fun h => h3 ((nI_eq (by omega) (by decide)).mp h)) ?_
      repeat refine hX _ _ _ _ _ _ _ _ _ _ _ _ _ _ rfl ?_
      exact ⟨by unfold kOf; rw [if_neg n1, if_neg n2, if_neg h3]; rfl, rfl⟩
  have h14 : ¬ (97 ≤ c ∧ c ≤ 122) → X 14 [some (.int (nI c))] [] h 0 0 := by
    intro n1
    repeat refine hX _ _ _ _ _ _ _ _ _ _ _ _ _ _ rfl ?_
    by_cases h1 : c < 48
    · refine br_t (show nI c < nI 48 from nI_lt h1 (by decide)) ?_
      exact h28 n1 (by omega)
    · refine br_f (show ¬ nI c < nI 48 from nI_nlt (by omega) (by omega)) ?_
      repeat refine hX _ _ _ _ _ _ _ _ _ _ _ _ _ _ rfl ?_
      by_cases h2 : 57 < c
      · refine br_t (show nI 57 < nI c from nI_lt h2 (by omega)) ?_
        exact h28 n1 (by omega)
      · refine br_f (show ¬ nI 57 < nI c from nI_nlt (by omega) (by decide)) ?_
        repeat refine hX _ _ _ _ _ _ _ _ _ _ _ _ _ _ rfl ?_
        exact ⟨by unfold kOf; rw [if_neg n1, if_pos (by omega)]; rfl, rfl⟩
  repeat refine hX _ _ _ _ _ _ _ _ _ _ _ _ _ _ rfl ?_
  by_cases h1 : c < 97
  · refine br_t (show nI c < nI 97 from nI_lt h1 (by decide)) ?_
    exact h14 (by omega)
  · refine br_f (show ¬ nI c < nI 97 from nI_nlt (by omega) (by omega)) ?_
    repeat refine hX _ _ _ _ _ _ _ _ _ _ _ _ _ _ rfl ?_
    by_cases h2 : 122 < c
    · refine br_t (show nI 122 < nI c from nI_lt h2 (by omega)) ?_
      exact h14 (by omega)
    · refine br_f (show ¬ nI 122 < nI c from nI_nlt (by omega) (by decide)) ?_
      repeat refine hX _ _ _ _ _ _ _ _ _ _ _ _ _ _ rfl ?_
      exact ⟨by unfold kOf; rw [if_pos (by omega)]; rfl, rfl⟩
/-- the reader's text -/
def RR (r : cR) (tx : aF) (L : Nat) : Prop := L ≤ 150 ∧ rLetters r = nI L ∧ (∀ i, i < L → rText r i = nI (tx i)) ∧ ∀ i, i < L → tx i < 256
abbrev rT (r : cR) (b e k : Int32) : cR := s_rToken (s_rNext (s_rPlace r b) e) k
theorem c_readToken (S : zS) (d : Nat) (sw : Bool) (c : cS) (hm : List zC) {tx : aF} {L p : Nat} (hR : RR (cRd c) tx L) (hn : rNext (cRd c) = nI p) (hp : p ≤ L) : Ex S (d + 2) 0 0 20 [.ref 1] (hC sw c, hm) none (hC sw (s_cRd c (rT (cRd c) (nI (tB tx L p)) (nI (tE tx L (tB tx L p))) (nI (tK tx L (tB tx L p))))), hm) := by
  obtain ⟨hL, hl, htx, hlt⟩ := hR
  have hbL := tB_le tx hp
  generalize hb : tB tx L p = b at *
  have hkd := fun h i (hi : i < L) => c_kindOf S d h (hlt i hi)
  cases sw
  case false =>
    (refine exI rfl rfl ?_; intro X hX)
    have h38 : X 38 [some (.ref 1), none] [] (hC false (s_cRd c (s_rNext (cRd c) (nI b))), hm) 0 0 := by
      repeat refine hX _ _ _ _ _ _ _ _ _ _ _ _ _ _ rfl ?_
      by_cases hbl : b < L
      · refine br_t (show nI b < rLetters (cRd c) from by rw [hl]; exact nI_lt hbl (by omega)) ?_
        have loop2 : ∀ (n q : Nat), q + n = L → b < q → (kOf (tx b) = 1 ∨ kOf (tx b) = 2) → scn tx (kOf (tx b)) n q = tE tx L b → X 111 [some (.ref 1), some (.int 1)] [] (hC false (s_cRd c (rT (cRd c) (nI b) (nI q) (nI (kOf (tx b))))), hm) 0 0 := by
          intro n
          induction n with
          | zero =>
            intro q hq hbq hk he
            repeat refine hX _ _ _ _ _ _ _ _ _ _ _ _ _ _ rfl ?_
            refine br_f (show ¬ (1 : Int32) = 0 by decide) ?_
            repeat refine hX _ _ _ _ _ _ _ _ _ _ _ _ _ _ rfl ?_
            refine br_t (show rLetters (cRd c) ≤ nI q from by rw [hl]; exact nI_le (by omega) (by omega)) ?_
            repeat refine hX _ _ _ _ _ _ _ _ _ _ _ _ _ _ rfl ?_
            rw [scn] at he
            rw [tK, if_pos hbl, ← he]
            exact ⟨rfl, rfl⟩
          | succ n ih =>
            intro q hq hbq hk he
            rw [scn] at he
            repeat refine hX _ _ _ _ _ _ _ _ _ _ _ _ _ _ rfl ?_
            refine br_f (show ¬ (1 : Int32) = 0 by decide) ?_
            repeat refine hX _ _ _ _ _ _ _ _ _ _ _ _ _ _ rfl ?_
            refine br_f (show ¬ rLetters (cRd c) ≤ nI q from by rw [hl]; exact nI_ge (by omega) (by omega)) ?_
            repeat refine hX _ _ _ _ _ _ _ _ _ _ _ _ _ _ rfl ?_
            refine ⟨vp_in_nI (by omega) (by decide), ?_⟩
            rw [nI_clamp (by omega)]
            rw [htx q (by omega)]
            repeat refine hX _ _ _ _ _ _ _ _ _ _ _ _ _ _ rfl ?_
            refine Or.inl ⟨_, _, hkd _ q (by omega), ?_⟩
            repeat refine hX _ _ _ _ _ _ _ _ _ _ _ _ _ _ rfl ?_
            have hk1 := kOf_le (tx q)
            have hk2 := kOf_le (tx b)
            by_cases hkq : kOf (tx q) = kOf (tx b)
            · rw [if_pos hkq] at he
              refine br_f (show ¬ ¬ nI (kOf (tx q)) = nI (kOf (tx b)) from fun h => h (congrArg nI hkq)) ?_
              have h7 := ih (q + 1) (by omega) (by omega) hk he
              rw [← nI_1] at h7
              iterate 7 (refine hX _ _ _ _ _ _ _ _ _ _ _ _ _ _ rfl ?_)
              exact h7
            · rw [if_neg hkq] at he
              refine br_t (show ¬ nI (kOf (tx q)) = nI (kOf (tx b)) from fun h => hkq ((nI_eq (by omega) (by omega)).mp h)) ?_
              repeat refine hX _ _ _ _ _ _ _ _ _ _ _ _ _ _ rfl ?_
              rw [tK, if_pos hbl, ← he]
              exact ⟨rfl, rfl⟩
        have hk2 := kOf_le (tx b)
        repeat refine hX _ _ _ _ _ _ _ _ _ _ _ _ _ _ rfl ?_
        refine ⟨vp_in_nI (by omega) (by decide), ?_⟩
        rw [nI_clamp (by omega)]
        rw [htx b hbl]
        repeat refine hX _ _ _ _ _ _ _ _ _ _ _ _ _ _ rfl ?_
        refine Or.inl ⟨_, _, hkd _ b hbl, ?_⟩
        repeat refine hX _ _ _ _ _ _ _ _ _ _ _ _ _ _ rfl ?_
        have h110 : (kOf (tx b) = 1 ∨ kOf (tx b) = 2) → X 110 [some (.ref 1), none] [.int 1] (hC false (s_cRd c (rT (cRd c) (nI b) (nI (b + 1)) (nI (kOf (tx b))))), hm) 0 0 := by
          intro hk
          have h7 := loop2 (L - (b + 1)) (b + 1) (by omega) (by omega) hk (by rw [tE, if_pos hbl, if_pos hk])
          iterate 1 (refine hX _ _ _ _ _ _ _ _ _ _ _ _ _ _ rfl ?_)
          exact h7
        rw [← nI_1] at h110
        by_cases k1 : kOf (tx b) = 1
        · refine br_t (show nI (kOf (tx b)) = nI 1 from congrArg nI k1) ?_
          iterate 2 (refine hX _ _ _ _ _ _ _ _ _ _ _ _ _ _ rfl ?_)
          exact h110 (Or.inl k1)
        · refine br_f (show ¬ nI (kOf (tx b)) = nI 1 from fun h => k1 ((nI_eq (by omega) (by omega)).mp h)) ?_
          repeat refine hX _ _ _ _ _ _ _ _ _ _ _ _ _ _ rfl ?_
          by_cases k2 : kOf (tx b) = 2
          · refine br_f (show ¬ ¬ nI (kOf (tx b)) = nI 2 from fun h => h (congrArg nI k2)) ?_
            iterate 2 (refine hX _ _ _ _ _ _ _ _ _ _ _ _ _ _ rfl ?_)
            exact h110 (Or.inr k2)
          · refine br_t (show ¬ nI (kOf (tx b)) = nI 2 from fun h => k2 ((nI_eq (by omega) (by omega)).mp h)) ?_
            repeat refine hX _ _ _ _ _ _ _ _ _ _ _ _ _ _ rfl ?_
            refine br_t (show (0 : Int32) = 0 from rfl) ?_
            repeat refine hX _ _ _ _ _ _ _ _ _ _ _ _ _ _ rfl ?_
            refine ⟨rfl, ?_⟩
            rw [tK, if_pos hbl, tE, if_pos hbl, if_neg (fun h => h.elim k1 k2), ← nI_1]
            rfl
      · refine br_f (show ¬ nI b < rLetters (cRd c) from by rw [hl]; exact nI_nlt (by omega) (by omega)) ?_
        repeat refine hX _ _ _ _ _ _ _ _ _ _ _ _ _ _ rfl ?_
        refine ⟨rfl, ?_⟩
        rw [tK, if_neg hbl, tE, if_neg hbl]
        rfl
    have loop1 : ∀ (n q : Nat), q + n = L → skp tx n q = b → X 0 [some (.ref 1), none] [] (hC false (s_cRd c (s_rNext (cRd c) (nI q))), hm) 0 0 := by
      intro n
      induction n with
      | zero =>
        intro q hq he
        rw [skp] at he
        rw [← he] at h38
        repeat refine hX _ _ _ _ _ _ _ _ _ _ _ _ _ _ rfl ?_
        refine br_t (show rLetters (cRd c) ≤ nI q from by rw [hl]; exact nI_le (by omega) (by omega)) ?_
        exact h38
      | succ n ih =>
        intro q hq he
        rw [skp] at he
        have hql := hlt q (by omega)
        repeat refine hX _ _ _ _ _ _ _ _ _ _ _ _ _ _ rfl ?_
        refine br_f (show ¬ rLetters (cRd c) ≤ nI q from by rw [hl]; exact nI_ge (by omega) (by omega)) ?_
        repeat refine hX _ _ _ _ _ _ _ _ _ _ _ _ _ _ rfl ?_
        refine ⟨vp_in_nI (by omega) (by decide), ?_⟩
        rw [nI_clamp (by omega)]
        rw [htx q (by omega)]
        repeat refine hX _ _ _ _ _ _ _ _ _ _ _ _ _ _ rfl ?_
        by_cases h32 : tx q = 32
        · rw [if_pos h32] at he
          refine br_f (show ¬ ¬ nI (tx q) = nI 32 from fun h => h (congrArg nI h32)) ?_
          have h7 := ih (q + 1) (by omega) he
          rw [← nI_1] at h7
          iterate 7 (refine hX _ _ _ _ _ _ _ _ _ _ _ _ _ _ rfl ?_)
          exact h7
        · rw [if_neg h32] at he
          rw [← he] at h38
          refine br_t (show ¬ nI (tx q) = nI 32 from fun h => h32 ((nI_eq (by omega) (by omega)).mp h)) ?_
          exact h38
    have h0 := loop1 (L - p) p (by omega) hb
    rw [← hn] at h0
    exact h0
  case true =>
    (refine exI rfl rfl ?_; intro X hX)
    have h38 : X 38 [some (.ref 1), none] [] (hC true (s_cRd c (s_rNext (cRd c) (nI b))), hm) 0 0 := by
      repeat refine hX _ _ _ _ _ _ _ _ _ _ _ _ _ _ rfl ?_
      by_cases hbl : b < L
      · refine br_t (show nI b < rLetters (cRd c) from by rw [hl]; exact nI_lt hbl (by omega)) ?_
        have loop2 : ∀ (n q : Nat), q + n = L → b < q → (kOf (tx b) = 1 ∨ kOf (tx b) = 2) → scn tx (kOf (tx b)) n q = tE tx L b → X 111 [some (.ref 1), some (.int 1)] [] (hC true (s_cRd c (rT (cRd c) (nI b) (nI q) (nI (kOf (tx b))))), hm) 0 0 := by
          intro n
          induction n with
          | zero =>
            intro q hq hbq hk he
            repeat refine hX _ _ _ _ _ _ _ _ _ _ _ _ _ _ rfl ?_
            refine br_f (show ¬ (1 : Int32) = 0 by decide) ?_
            repeat refine hX _ _ _ _ _ _ _ _ _ _ _ _ _ _ rfl ?_
            refine br_t (show rLetters (cRd c) ≤ nI q from by rw [hl]; exact nI_le (by omega) (by omega)) ?_
            repeat refine hX _ _ _ _ _ _ _ _ _ _ _ _ _ _ rfl ?_
            rw [scn] at he
            rw [tK, if_pos hbl, ← he]
            exact ⟨rfl, rfl⟩
          | succ n ih =>
            intro q hq hbq hk he
            rw [scn] at he
            repeat refine hX _ _ _ _ _ _ _ _ _ _ _ _ _ _ rfl ?_
            refine br_f (show ¬ (1 : Int32) = 0 by decide) ?_
            repeat refine hX _ _ _ _ _ _ _ _ _ _ _ _ _ _ rfl ?_
            refine br_f (show ¬ rLetters (cRd c) ≤ nI q from by rw [hl]; exact nI_ge (by omega) (by omega)) ?_
            repeat refine hX _ _ _ _ _ _ _ _ _ _ _ _ _ _ rfl ?_
            refine ⟨vp_in_nI (by omega) (by decide), ?_⟩
            rw [nI_clamp (by omega)]
            rw [htx q (by omega)]
            repeat refine hX _ _ _ _ _ _ _ _ _ _ _ _ _ _ rfl ?_
            refine Or.inl ⟨_, _, hkd _ q (by omega), ?_⟩
            repeat refine hX _ _ _ _ _ _ _ _ _ _ _ _ _ _ rfl ?_
            have hk1 := kOf_le (tx q)
            have hk2 := kOf_le (tx b)
            by_cases hkq : kOf (tx q) = kOf (tx b)
            · rw [if_pos hkq] at he
              refine br_f (show ¬ ¬ nI (kOf (tx q)) = nI (kOf (tx b)) from fun h => h (congrArg nI hkq)) ?_
              have h7 := ih (q + 1) (by omega) (by omega) hk he
              rw [← nI_1] at h7
              iterate 7 (refine hX _ _ _ _ _ _ _ _ _ _ _ _ _ _ rfl ?_)
              exact h7
            · rw [if_neg hkq] at he
              refine br_t (show ¬ nI (kOf (tx q)) = nI (kOf (tx b)) from fun h => hkq ((nI_eq (by omega) (by omega)).mp h)) ?_
              repeat refine hX _ _ _ _ _ _ _ _ _ _ _ _ _ _ rfl ?_
              rw [tK, if_pos hbl, ← he]
              exact ⟨rfl, rfl⟩
        have hk2 := kOf_le (tx b)
        repeat refine hX _ _ _ _ _ _ _ _ _ _ _ _ _ _ rfl ?_
        refine ⟨vp_in_nI (by omega) (by decide), ?_⟩
        rw [nI_clamp (by omega)]
        rw [htx b hbl]
        repeat refine hX _ _ _ _ _ _ _ _ _ _ _ _ _ _ rfl ?_
        refine Or.inl ⟨_, _, hkd _ b hbl, ?_⟩
        repeat refine hX _ _ _ _ _ _ _ _ _ _ _ _ _ _ rfl ?_
        have h110 : (kOf (tx b) = 1 ∨ kOf (tx b) = 2) → X 110 [some (.ref 1), none] [.int 1] (hC true (s_cRd c (rT (cRd c) (nI b) (nI (b + 1)) (nI (kOf (tx b))))), hm) 0 0 := by
          intro hk
          have h7 := loop2 (L - (b + 1)) (b + 1) (by omega) (by omega) hk (by rw [tE, if_pos hbl, if_pos hk])
          iterate 1 (refine hX _ _ _ _ _ _ _ _ _ _ _ _ _ _ rfl ?_)
          exact h7
        rw [← nI_1] at h110
        by_cases k1 : kOf (tx b) = 1
        · refine br_t (show nI (kOf (tx b)) = nI 1 from congrArg nI k1) ?_
          iterate 2 (refine hX _ _ _ _ _ _ _ _ _ _ _ _ _ _ rfl ?_)
          exact h110 (Or.inl k1)
        · refine br_f (show ¬ nI (kOf (tx b)) = nI 1 from fun h => k1 ((nI_eq (by omega) (by omega)).mp h)) ?_
          repeat refine hX _ _ _ _ _ _ _ _ _ _ _ _ _ _ rfl ?_
          by_cases k2 : kOf (tx b) = 2
          · refine br_f (show ¬ ¬ nI (kOf (tx b)) = nI 2 from fun h => h (congrArg nI k2)) ?_
            iterate 2 (refine hX _ _ _ _ _ _ _ _ _ _ _ _ _ _ rfl ?_)
            exact h110 (Or.inr k2)
          · refine br_t (show ¬ nI (kOf (tx b)) = nI 2 from fun h => k2 ((nI_eq (by omega) (by omega)).mp h)) ?_
            repeat refine hX _ _ _ _ _ _ _ _ _ _ _ _ _ _ rfl ?_
            refine br_t (show (0 : Int32) = 0 from rfl) ?_
            repeat refine hX _ _ _ _ _ _ _ _ _ _ _ _ _ _ rfl ?_
            refine ⟨rfl, ?_⟩
            rw [tK, if_pos hbl, tE, if_pos hbl, if_neg (fun h => h.elim k1 k2), ← nI_1]
            rfl
      · refine br_f (show ¬ nI b < rLetters (cRd c) from by rw [hl]; exact nI_nlt (by omega) (by omega)) ?_
        repeat refine hX _ _ _ _ _ _ _ _ _ _ _ _ _ _ rfl ?_
        refine ⟨rfl, ?_⟩
        rw [tK, if_neg hbl, tE, if_neg hbl]
        rfl
    have loop1 : ∀ (n q : Nat), q + n = L → skp tx n q = b → X 0 [some (.ref 1), none] [] (hC true (s_cRd c (s_rNext (cRd c) (nI q))), hm) 0 0 := by
      intro n
      induction n with
      | zero =>
        intro q hq he
        rw [skp] at he
        rw [← he] at h38
        repeat refine hX _ _ _ _ _ _ _ _ _ _ _ _ _ _ rfl ?_
        refine br_t (show rLetters (cRd c) ≤ nI q from by rw [hl]; exact nI_le (by omega) (by omega)) ?_
        exact h38
      | succ n ih =>
        intro q hq he
        rw [skp] at he
        have hql := hlt q (by omega)
        repeat refine hX _ _ _ _ _ _ _ _ _ _ _ _ _ _ rfl ?_
        refine br_f (show ¬ rLetters (cRd c) ≤ nI q from by rw [hl]; exact nI_ge (by omega) (by omega)) ?_
        repeat refine hX _ _ _ _ _ _ _ _ _ _ _ _ _ _ rfl ?_
        refine ⟨vp_in_nI (by omega) (by decide), ?_⟩
        rw [nI_clamp (by omega)]
        rw [htx q (by omega)]
        repeat refine hX _ _ _ _ _ _ _ _ _ _ _ _ _ _ rfl ?_
        by_cases h32 : tx q = 32
        · rw [if_pos h32] at he
          refine br_f (show ¬ ¬ nI (tx q) = nI 32 from fun h => h (congrArg nI h32)) ?_
          have h7 := ih (q + 1) (by omega) he
          rw [← nI_1] at h7
          iterate 7 (refine hX _ _ _ _ _ _ _ _ _ _ _ _ _ _ rfl ?_)
          exact h7
        · rw [if_neg h32] at he
          rw [← he] at h38
          refine br_t (show ¬ nI (tx q) = nI 32 from fun h => h32 ((nI_eq (by omega) (by omega)).mp h)) ?_
          exact h38
    have h0 := loop1 (L - p) p (by omega) hb
    rw [← hn] at h0
    exact h0
