/-! numbers and insults of a text -/
def tN (tx : aF) (L b : Nat) : Nat := if tK tx L b = 2 then (if tE tx L b - b = 1 then tx b - 48 else if tE tx L b - b = 2 ∧ tx b ≠ 48 then 10 * (tx b - 48) + (tx (b + 1) - 48) else 100) else 100
def fV (tx : aF) : Nat → Nat → Nat → Nat
  | 0, _, v => v
  | n + 1, i, v => fV tx n (i + 1) (min (v * 10 + (tx i - 48)) 100)
def lowF (tx : aF) : Nat → Nat → Bool
  | 0, _ => true
  | n + 1, i => decide (tx i ≤ 102) && lowF tx n (i + 1)
def setF (tx : aF) : Nat → Nat → Nat → Nat
  | 0, _, v => v
  | n + 1, i, v => setF tx n (i + 1) (v ||| 2 ^ (tx i - 97))
def tI (tx : aF) (L b most : Nat) : Bool := decide (tK tx L b = 1) && (decide (tE tx L b - b ≤ most) && lowF tx (tE tx L b - b) b)
def tS (tx : aF) (L b : Nat) : Nat := setF tx (tE tx L b - b) b 0
theorem fV_100 (tx : aF) : ∀ n i, fV tx n i 100 = 100
  | 0, _ => rfl
  | n + 1, i => by rw [fV, Nat.min_eq_right (by omega), fV_100 tx n (i + 1)]
theorem tK_2 {tx : aF} {L b : Nat} (h : tK tx L b = 2) : b < L ∧ kOf (tx b) = 2 := by
  unfold tK at h
  by_cases h1 : b < L
  · rw [if_pos h1] at h; exact ⟨h1, h⟩
  · rw [if_neg h1] at h; omega
theorem tK_1 {tx : aF} {L b : Nat} (h : tK tx L b = 1) : b < L ∧ kOf (tx b) = 1 := by
  unfold tK at h
  by_cases h1 : b < L
  · rw [if_pos h1] at h; exact ⟨h1, h⟩
  · rw [if_neg h1] at h; omega
theorem tK_le (tx : aF) (L b : Nat) : tK tx L b ≤ 4 := by
  unfold tK
  by_cases h1 : b < L
  · rw [if_pos h1]; exact (kOf_le _).2
  · rw [if_neg h1]; omega
theorem tN_le (tx : aF) (L b : Nat) : tN tx L b ≤ 100 := by
  unfold tN
  by_cases h1 : tK tx L b = 2
  · rw [if_pos h1]
    have ⟨hb, hk⟩ := tK_2 h1
    have := kOf_2 hk
    by_cases h2 : tE tx L b - b = 1
    · rw [if_pos h2]; omega
    · rw [if_neg h2]
      by_cases h3 : tE tx L b - b = 2 ∧ tx b ≠ 48
      · rw [if_pos h3]
        have := kOf_2 ((tE_all tx (L := L) (i := b + 1) (by omega) (by omega)).trans hk)
        omega
      · rw [if_neg h3]; omega
  · rw [if_neg h1]; omega
theorem fV_tN {tx : aF} {L b : Nat} (h : tK tx L b = 2) (h0 : ¬ (tx b = 48 ∧ 1 < tE tx L b - b)) : fV tx (tE tx L b - b) b 0 = tN tx L b := by
  have ⟨hb, hk⟩ := tK_2 h
  have hlt := (tE_le tx (Nat.le_of_lt hb)).2.2 hb
  have hd : ∀ i, b ≤ i → i < tE tx L b → 48 ≤ tx i ∧ tx i ≤ 57 := fun i h1 h2 => kOf_2 ((tE_all tx h1 h2).trans hk)
  have d1 := hd b (Nat.le_refl _) hlt
  unfold tN
  rw [if_pos h]
  by_cases h2 : tE tx L b - b = 1
  · rw [if_pos h2, h2, fV, fV, Nat.min_eq_left (by omega)]
    omega
  · rw [if_neg h2]
    have h48 : tx b ≠ 48 := fun h => h0 ⟨h, by omega⟩
    have d2 := hd (b + 1) (by omega) (by omega)
    by_cases h3 : tE tx L b - b = 2
    · rw [if_pos ⟨h3, h48⟩, h3, fV, fV, fV, Nat.min_eq_left (show 0 * 10 + (tx b - 48) ≤ 100 by omega), Nat.min_eq_left (by omega)]
      omega
    · rw [if_neg (fun h => h3 h.1)]
      have d3 := hd (b + 2) (by omega) (by omega)
      obtain ⟨n, hn⟩ : ∃ n, tE tx L b - b = n + 3 := ⟨tE tx L b - b - 3, by omega⟩
      rw [hn, fV, fV, fV, Nat.min_eq_left (show 0 * 10 + (tx b - 48) ≤ 100 by omega), Nat.min_eq_left (show (0 * 10 + (tx b - 48)) * 10 + (tx (b + 1) - 48) ≤ 100 by omega), Nat.min_eq_right (by omega), fV_100]
theorem j_min (S : zS) (d : Nat) (h : zH) {x y : Nat} (hx : x < 2 ^ 31) (hy : y < 2 ^ 31) : Ex S (d + 1) 0 0 153 [.int (nI x), .int (nI y)] h (some (.int (nI (min x y)))) h := by
  (refine exI rfl rfl ?_; intro X hX)
  repeat refine hX _ _ _ _ _ _ _ _ _ _ _ _ _ _ rfl ?_
  by_cases hlt : y < x
  · refine br_t (show nI y < nI x from nI_lt hlt hx) ?_
    repeat refine hX _ _ _ _ _ _ _ _ _ _ _ _ _ _ rfl ?_
    exact ⟨by rw [Nat.min_eq_right (by omega)], rfl⟩
  · refine br_f (show ¬ nI y < nI x from nI_nlt (by omega) hy) ?_
    repeat refine hX _ _ _ _ _ _ _ _ _ _ _ _ _ _ rfl ?_
    exact ⟨by rw [Nat.min_eq_left (by omega)], rfl⟩
theorem c_numberOf (S : zS) (d : Nat) (sw : Bool) (c : cS) (hm : List zC) {tx : aF} {L b : Nat} (hR : RR (cRd c) tx L) (hb : rPlace (cRd c) = nI b) (he : rNext (cRd c) = nI (tE tx L b)) (hk : tK tx L b = 2) : Ex S (d + 2) 0 0 17 [.ref 1] (hC sw c, hm) (some (.int (nI (tN tx L b)))) (hC sw c, hm) := by
  obtain ⟨hL, hl, htx, hlt⟩ := hR
  have ⟨hbl, hkb⟩ := tK_2 hk
  have hte := tE_le tx (Nat.le_of_lt hbl)
  have hd : ∀ i, b ≤ i → i < tE tx L b → 48 ≤ tx i ∧ tx i ≤ 57 := fun i h1 h2 => kOf_2 ((tE_all tx h1 h2).trans hkb)
  have d1 := hd b (Nat.le_refl _) (hte.2.2 hbl)
  have hfv := fV_tN hk
  have htn := tN_le tx L b
  generalize hee : tE tx L b = e at *
  have hmn := fun h x (hx : x < 2 ^ 31) => j_min S d h hx (y := 100) (by decide)
  cases sw
  case false =>
    (refine exI rfl rfl ?_; intro X hX)
    have loop : ¬ (tx b = 48 ∧ 1 < e - b) → ∀ (n i v : Nat), i + n = e → b ≤ i → v ≤ 100 → fV tx n i v = tN tx L b → X 37 [some (.ref 1), some (.int (nI v)), some (.int (nI i))] [] (hC false c, hm) 0 0 := by
      intro hz n
      induction n with
      | zero =>
        intro i v hi hbi hv hf
        repeat refine hX _ _ _ _ _ _ _ _ _ _ _ _ _ _ rfl ?_
        rw [he]
        refine br_t (show nI e ≤ nI i from nI_le (by omega) (by omega)) ?_
        repeat refine hX _ _ _ _ _ _ _ _ _ _ _ _ _ _ rfl ?_
        rw [fV] at hf
        exact ⟨by rw [hf], rfl⟩
      | succ n ih =>
        intro i v hi hbi hv hf
        have di := hd i hbi (by omega)
        rw [fV] at hf
        repeat refine hX _ _ _ _ _ _ _ _ _ _ _ _ _ _ rfl ?_
        rw [he]
        refine br_f (show ¬ nI e ≤ nI i from nI_ge (by omega) (by omega)) ?_
        repeat refine hX _ _ _ _ _ _ _ _ _ _ _ _ _ _ rfl ?_
        refine ⟨vp_in_nI (by omega) (by decide), ?_⟩
        rw [nI_clamp (by omega)]
        rw [htx i (by omega)]
        iterate 4 (refine hX _ _ _ _ _ _ _ _ _ _ _ _ _ _ rfl ?_)
        rw [show nI v * 10 + nI (tx i) - 48 = nI (v * 10 + (tx i - 48)) from by rw [show (10 : Int32) = nI 10 from rfl, pk_mul, nI_add, show (48 : Int32) = nI 48 from rfl, pk_sub (by omega), Nat.add_sub_assoc di.1]]
        repeat refine hX _ _ _ _ _ _ _ _ _ _ _ _ _ _ rfl ?_
        refine Or.inl ⟨_, _, hmn _ (v * 10 + (tx i - 48)) (by omega), ?_⟩
        iterate 3 (refine hX _ _ _ _ _ _ _ _ _ _ _ _ _ _ rfl ?_)
        rw [nI_1]
        exact ih (i + 1) _ (by omega) (by omega) (Nat.min_le_right _ _) hf
    have h30 : ¬ (tx b = 48 ∧ 1 < e - b) → X 30 [some (.ref 1), none, none] [] (hC false c, hm) 0 0 := by
      intro hz
      have h7 := loop hz (e - b) b 0 (by omega) (Nat.le_refl _) (by omega) (hfv hz)
      rw [← hb] at h7
      iterate 5 (refine hX _ _ _ _ _ _ _ _ _ _ _ _ _ _ rfl ?_)
      exact h7
    repeat refine hX _ _ _ _ _ _ _ _ _ _ _ _ _ _ rfl ?_
    rw [hb]
    refine ⟨vp_in_nI (by omega) (by decide), ?_⟩
    rw [nI_clamp (by omega)]
    rw [htx b hbl]
    repeat refine hX _ _ _ _ _ _ _ _ _ _ _ _ _ _ rfl ?_
    by_cases h48 : tx b = 48
    · refine br_f (show ¬ ¬ nI (tx b) = nI 48 from fun h => h (congrArg nI h48)) ?_
      iterate 5 (refine hX _ _ _ _ _ _ _ _ _ _ _ _ _ _ rfl ?_)
      rw [he, hb]
      iterate 2 (refine hX _ _ _ _ _ _ _ _ _ _ _ _ _ _ rfl ?_)
      rw [show nI e - nI b = nI (e - b) from pk_sub (by omega)]
      by_cases h1 : e - b ≤ 1
      · refine br_t (show nI (e - b) ≤ nI 1 from nI_le h1 (by decide)) ?_
        exact h30 (fun h => by omega)
      · refine br_f (show ¬ nI (e - b) ≤ nI 1 from nI_ge (by omega) (by omega)) ?_
        repeat refine hX _ _ _ _ _ _ _ _ _ _ _ _ _ _ rfl ?_
        refine ⟨?_, rfl⟩
        unfold tN
        rw [if_pos hk, hee, if_neg (by omega), if_neg (fun h => h.2 h48)]
        rfl
    · refine br_t (show ¬ nI (tx b) = nI 48 from fun h => h48 ((nI_eq (by omega) (by omega)).mp h)) ?_
      exact h30 (fun h => h48 h.1)
  case true =>
    (refine exI rfl rfl ?_; intro X hX)
    have loop : ¬ (tx b = 48 ∧ 1 < e - b) → ∀ (n i v : Nat), i + n = e → b ≤ i → v ≤ 100 → fV tx n i v = tN tx L b → X 37 [some (.ref 1), some (.int (nI v)), some (.int (nI i))] [] (hC true c, hm) 0 0 := by
      intro hz n
      induction n with
      | zero =>
        intro i v hi hbi hv hf
        repeat refine hX _ _ _ _ _ _ _ _ _ _ _ _ _ _ rfl ?_
        rw [he]
        refine br_t (show nI e ≤ nI i from nI_le (by omega) (by omega)) ?_
        repeat refine hX _ _ _ _ _ _ _ _ _ _ _ _ _ _ rfl ?_
        rw [fV] at hf
        exact ⟨by rw [hf], rfl⟩
      | succ n ih =>
        intro i v hi hbi hv hf
        have di := hd i hbi (by omega)
        rw [fV] at hf
        repeat refine hX _ _ _ _ _ _ _ _ _ _ _ _ _ _ rfl ?_
        rw [he]
        refine br_f (show ¬ nI e ≤ nI i from nI_ge (by omega) (by omega)) ?_
        repeat refine hX _ _ _ _ _ _ _ _ _ _ _ _ _ _ rfl ?_
        refine ⟨vp_in_nI (by omega) (by decide), ?_⟩
        rw [nI_clamp (by omega)]
        rw [htx i (by omega)]
        iterate 4 (refine hX _ _ _ _ _ _ _ _ _ _ _ _ _ _ rfl ?_)
        rw [show nI v * 10 + nI (tx i) - 48 = nI (v * 10 + (tx i - 48)) from by rw [show (10 : Int32) = nI 10 from rfl, pk_mul, nI_add, show (48 : Int32) = nI 48 from rfl, pk_sub (by omega), Nat.add_sub_assoc di.1]]
        repeat refine hX _ _ _ _ _ _ _ _ _ _ _ _ _ _ rfl ?_
        refine Or.inl ⟨_, _, hmn _ (v * 10 + (tx i - 48)) (by omega), ?_⟩
        iterate 3 (refine hX _ _ _ _ _ _ _ _ _ _ _ _ _ _ rfl ?_)
        rw [nI_1]
        exact ih (i + 1) _ (by omega) (by omega) (Nat.min_le_right _ _) hf
    have h30 : ¬ (tx b = 48 ∧ 1 < e - b) → X 30 [some (.ref 1), none, none] [] (hC true c, hm) 0 0 := by
      intro hz
      have h7 := loop hz (e - b) b 0 (by omega) (Nat.le_refl _) (by omega) (hfv hz)
      rw [← hb] at h7
      iterate 5 (refine hX _ _ _ _ _ _ _ _ _ _ _ _ _ _ rfl ?_)
      exact h7
    repeat refine hX _ _ _ _ _ _ _ _ _ _ _ _ _ _ rfl ?_
    rw [hb]
    refine ⟨vp_in_nI (by omega) (by decide), ?_⟩
    rw [nI_clamp (by omega)]
    rw [htx b hbl]
    repeat refine hX _ _ _ _ _ _ _ _ _ _ _ _ _ _ rfl ?_
    by_cases h48 : tx b = 48
    · refine br_f (show ¬ ¬ nI (tx b) = nI 48 from fun h => h (congrArg nI h48)) ?_
      iterate 5 (refine hX _ _ _ _ _ _ _ _ _ _ _ _ _ _ rfl ?_)
      rw [he, hb]
      iterate 2 (refine hX _ _ _ _ _ _ _ _ _ _ _ _ _ _ rfl ?_)
      rw [show nI e - nI b = nI (e - b) from pk_sub (by omega)]
      by_cases h1 : e - b ≤ 1
      · refine br_t (show nI (e - b) ≤ nI 1 from nI_le h1 (by decide)) ?_
        exact h30 (fun h => by omega)
      · refine br_f (show ¬ nI (e - b) ≤ nI 1 from nI_ge (by omega) (by omega)) ?_
        repeat refine hX _ _ _ _ _ _ _ _ _ _ _ _ _ _ rfl ?_
        refine ⟨?_, rfl⟩
        unfold tN
        rw [if_pos hk, hee, if_neg (by omega), if_neg (fun h => h.2 h48)]
        rfl
    · refine br_t (show ¬ nI (tx b) = nI 48 from fun h => h48 ((nI_eq (by omega) (by omega)).mp h)) ?_
      exact h30 (fun h => h48 h.1)
theorem c_readNumber (S : zS) (d : Nat) (sw : Bool) (c : cS) (hm : List zC) {tx : aF} {L p b : Nat} (hR : RR (cRd c) tx L) (hn : rNext (cRd c) = nI p) (hp : p ≤ L) (hb : tB tx L p = b) {lo hi : Nat} (hlo : lo < 1000) (hhi : hi < 1000) : Ex S (d + 3) 0 0 16 [.ref 1, .int (nI lo), .int (nI hi)] (hC sw c, hm) (some (.int (b2i (decide (lo ≤ tN tx L b) && decide (tN tx L b ≤ hi))))) (hC sw (s_cRd c (s_rNumber (rT (cRd c) (nI b) (nI (tE tx L b)) (nI (tK tx L b))) (nI (tN tx L b)))), hm) := by
  have hto := c_readToken S d sw c hm hR hn hp
  rw [hb] at hto
  have hno := fun hk => c_numberOf S d sw (s_cRd c (rT (cRd c) (nI b) (nI (tE tx L b)) (nI (tK tx L b)))) hm (tx := tx) (L := L) (b := b) hR rfl rfl hk
  have htn := tN_le tx L b
  have htk := tK_le tx L b
  cases sw
  case false =>
    (refine exI rfl rfl ?_; intro X hX)
    have h22 : X 22 [some (.ref 1), some (.int (nI lo)), some (.int (nI hi))] [.int (nI (tN tx L b)), .ref 1] (hC false (s_cRd c (rT (cRd c) (nI b) (nI (tE tx L b)) (nI (tK tx L b)))), hm) 0 0 := by
      repeat refine hX _ _ _ _ _ _ _ _ _ _ _ _ _ _ rfl ?_
      by_cases h1 : tN tx L b < lo
      · refine br_t (show nI (tN tx L b) < nI lo from nI_lt h1 (by omega)) ?_
        repeat refine hX _ _ _ _ _ _ _ _ _ _ _ _ _ _ rfl ?_
        exact ⟨Or.inl rfl, by rw [decide_eq_false (by omega)]; rfl, rfl⟩
      · refine br_f (show ¬ nI (tN tx L b) < nI lo from nI_nlt (by omega) (by omega)) ?_
        repeat refine hX _ _ _ _ _ _ _ _ _ _ _ _ _ _ rfl ?_
        by_cases h2 : hi < tN tx L b
        · refine br_t (show nI hi < nI (tN tx L b) from nI_lt h2 (by omega)) ?_
          repeat refine hX _ _ _ _ _ _ _ _ _ _ _ _ _ _ rfl ?_
          exact ⟨Or.inl rfl, by rw [decide_eq_false (show ¬ tN tx L b ≤ hi by omega), Bool.and_false]; rfl, rfl⟩
        · refine br_f (show ¬ nI hi < nI (tN tx L b) from nI_nlt (by omega) (by omega)) ?_
          repeat refine hX _ _ _ _ _ _ _ _ _ _ _ _ _ _ rfl ?_
          exact ⟨Or.inr rfl, by rw [decide_eq_true (show lo ≤ tN tx L b by omega), decide_eq_true (show tN tx L b ≤ hi by omega)]; rfl, rfl⟩
    repeat refine hX _ _ _ _ _ _ _ _ _ _ _ _ _ _ rfl ?_
    refine Or.inl ⟨_, _, hto, ?_⟩
    repeat refine hX _ _ _ _ _ _ _ _ _ _ _ _ _ _ rfl ?_
    by_cases hk : tK tx L b = 2
    · refine br_f (show ¬ ¬ nI (tK tx L b) = nI 2 from fun h => h (congrArg nI hk)) ?_
      repeat refine hX _ _ _ _ _ _ _ _ _ _ _ _ _ _ rfl ?_
      refine Or.inl ⟨_, _, hno hk, ?_⟩
      iterate 1 (refine hX _ _ _ _ _ _ _ _ _ _ _ _ _ _ rfl ?_)
      exact h22
    · refine br_t (show ¬ nI (tK tx L b) = nI 2 from fun h => hk ((nI_eq (by omega) (by omega)).mp h)) ?_
      have h100 : tN tx L b = 100 := by unfold tN; rw [if_neg hk]
      rw [h100] at h22
      iterate 1 (refine hX _ _ _ _ _ _ _ _ _ _ _ _ _ _ rfl ?_)
      exact h22
  case true =>
    (refine exI rfl rfl ?_; intro X hX)
    have h22 : X 22 [some (.ref 1), some (.int (nI lo)), some (.int (nI hi))] [.int (nI (tN tx L b)), .ref 1] (hC true (s_cRd c (rT (cRd c) (nI b) (nI (tE tx L b)) (nI (tK tx L b)))), hm) 0 0 := by
      repeat refine hX _ _ _ _ _ _ _ _ _ _ _ _ _ _ rfl ?_
      by_cases h1 : tN tx L b < lo
      · refine br_t (show nI (tN tx L b) < nI lo from nI_lt h1 (by omega)) ?_
        repeat refine hX _ _ _ _ _ _ _ _ _ _ _ _ _ _ rfl ?_
        exact ⟨Or.inl rfl, by rw [decide_eq_false (by omega)]; rfl, rfl⟩
      · refine br_f (show ¬ nI (tN tx L b) < nI lo from nI_nlt (by omega) (by omega)) ?_
        repeat refine hX _ _ _ _ _ _ _ _ _ _ _ _ _ _ rfl ?_
        by_cases h2 : hi < tN tx L b
        · refine br_t (show nI hi < nI (tN tx L b) from nI_lt h2 (by omega)) ?_
          repeat refine hX _ _ _ _ _ _ _ _ _ _ _ _ _ _ rfl ?_
          exact ⟨Or.inl rfl, by rw [decide_eq_false (show ¬ tN tx L b ≤ hi by omega), Bool.and_false]; rfl, rfl⟩
        · refine br_f (show ¬ nI hi < nI (tN tx L b) from nI_nlt (by omega) (by omega)) ?_
          repeat refine hX _ _ _ _ _ _ _ _ _ _ _ _ _ _ rfl ?_
          exact ⟨Or.inr rfl, by rw [decide_eq_true (show lo ≤ tN tx L b by omega), decide_eq_true (show tN tx L b ≤ hi by omega)]; rfl, rfl⟩
    repeat refine hX _ _ _ _ _ _ _ _ _ _ _ _ _ _ rfl ?_
    refine Or.inl ⟨_, _, hto, ?_⟩
    repeat refine hX _ _ _ _ _ _ _ _ _ _ _ _ _ _ rfl ?_
    by_cases hk : tK tx L b = 2
    · refine br_f (show ¬ ¬ nI (tK tx L b) = nI 2 from fun h => h (congrArg nI hk)) ?_
      repeat refine hX _ _ _ _ _ _ _ _ _ _ _ _ _ _ rfl ?_
      refine Or.inl ⟨_, _, hno hk, ?_⟩
      iterate 1 (refine hX _ _ _ _ _ _ _ _ _ _ _ _ _ _ rfl ?_)
      exact h22
    · refine br_t (show ¬ nI (tK tx L b) = nI 2 from fun h => hk ((nI_eq (by omega) (by omega)).mp h)) ?_
      have h100 : tN tx L b = 100 := by unfold tN; rw [if_neg hk]
      rw [h100] at h22
      iterate 1 (refine hX _ _ _ _ _ _ _ _ _ _ _ _ _ _ rfl ?_)
      exact h22
theorem c_readStop (S : zS) (d : Nat) (sw : Bool) (c : cS) (hm : List zC) {tx : aF} {L p b : Nat} (hR : RR (cRd c) tx L) (hn : rNext (cRd c) = nI p) (hp : p ≤ L) (hb : tB tx L p = b) : Ex S (d + 3) 0 0 15 [.ref 1] (hC sw c, hm) (some (.int (b2i (decide (tK tx L b = 3))))) (hC sw (s_cRd c (rT (cRd c) (nI b) (nI (tE tx L b)) (nI (tK tx L b)))), hm) := by
  have hto := c_readToken S d sw c hm hR hn hp
  rw [hb] at hto
  have htk := tK_le tx L b
  cases sw
  all_goals
    (refine exI rfl rfl ?_; intro X hX)
    repeat refine hX _ _ _ _ _ _ _ _ _ _ _ _ _ _ rfl ?_
    refine Or.inl ⟨_, _, hto, ?_⟩
    repeat refine hX _ _ _ _ _ _ _ _ _ _ _ _ _ _ rfl ?_
    by_cases hk : tK tx L b = 3
    · refine br_f (show ¬ ¬ nI (tK tx L b) = nI 3 from fun h => h (congrArg nI hk)) ?_
      repeat refine hX _ _ _ _ _ _ _ _ _ _ _ _ _ _ rfl ?_
      exact ⟨Or.inr rfl, by rw [decide_eq_true hk]; rfl, rfl⟩
    · refine br_t (show ¬ nI (tK tx L b) = nI 3 from fun h => hk ((nI_eq (by omega) (by omega)).mp h)) ?_
      repeat refine hX _ _ _ _ _ _ _ _ _ _ _ _ _ _ rfl ?_
      exact ⟨Or.inl rfl, by rw [decide_eq_false hk]; rfl, rfl⟩
theorem c_readInsults (S : zS) (d : Nat) (sw : Bool) (c : cS) (hm : List zC) {tx : aF} {L p b : Nat} (hR : RR (cRd c) tx L) (hn : rNext (cRd c) = nI p) (hp : p ≤ L) (hb : tB tx L p = b) {most : Nat} (hmo : most < 1000) : Ex S (d + 3) 0 0 18 [.ref 1, .int (nI most)] (hC sw c, hm) (some (.int (b2i (tI tx L b most)))) (hC sw (s_cRd c (rT (cRd c) (nI b) (nI (tE tx L b)) (nI (tK tx L b)))), hm) := by
  have hto := c_readToken S d sw c hm hR hn hp
  rw [hb] at hto
  have htk := tK_le tx L b
  have hbl := tB_le tx hp
  rw [hb] at hbl
  have hte := tE_le tx hbl.2
  obtain ⟨hL, hl, htx, hlt⟩ := hR
  unfold tI
  generalize tE tx L b = e at *
  cases sw
  case false =>
    (refine exI rfl rfl ?_; intro X hX)
    have loop : ∀ (n i : Nat), i + n = e → b ≤ i → tK tx L b = 1 → e - b ≤ most → (lowF tx n i = lowF tx (e - b) b) → X 32 [some (.ref 1), some (.int (nI most)), some (.int (nI i))] [] (hC false (s_cRd c (rT (cRd c) (nI b) (nI e) (nI (tK tx L b)))), hm) 0 0 := by
      intro n
      induction n with
      | zero =>
        intro i hi hbi h1 h2 h3
        repeat refine hX _ _ _ _ _ _ _ _ _ _ _ _ _ _ rfl ?_
        refine br_t (show nI e ≤ nI i from nI_le (by omega) (by omega)) ?_
        repeat refine hX _ _ _ _ _ _ _ _ _ _ _ _ _ _ rfl ?_
        exact ⟨Or.inr rfl, by rw [decide_eq_true h1, decide_eq_true h2, ← h3]; rfl, rfl⟩
      | succ n ih =>
        intro i hi hbi h1 h2 h3
        have hti := hlt i (by omega)
        rw [lowF] at h3
        repeat refine hX _ _ _ _ _ _ _ _ _ _ _ _ _ _ rfl ?_
        refine br_f (show ¬ nI e ≤ nI i from nI_ge (by omega) (by omega)) ?_
        repeat refine hX _ _ _ _ _ _ _ _ _ _ _ _ _ _ rfl ?_
        refine ⟨vp_in_nI (by omega) (by decide), ?_⟩
        rw [nI_clamp (by omega)]
        rw [htx i (by omega)]
        repeat refine hX _ _ _ _ _ _ _ _ _ _ _ _ _ _ rfl ?_
        by_cases h102 : tx i ≤ 102
        · rw [decide_eq_true h102, Bool.true_and] at h3
          refine br_t (show nI (tx i) ≤ nI 102 from nI_le h102 (by decide)) ?_
          iterate 2 (refine hX _ _ _ _ _ _ _ _ _ _ _ _ _ _ rfl ?_)
          rw [nI_1]
          exact ih (i + 1) (by omega) (by omega) h1 h2 h3
        · rw [decide_eq_false h102, Bool.false_and] at h3
          refine br_f (show ¬ nI (tx i) ≤ nI 102 from nI_ge (by omega) (by omega)) ?_
          repeat refine hX _ _ _ _ _ _ _ _ _ _ _ _ _ _ rfl ?_
          exact ⟨Or.inl rfl, by rw [← h3, Bool.and_false, Bool.and_false]; rfl, rfl⟩
    repeat refine hX _ _ _ _ _ _ _ _ _ _ _ _ _ _ rfl ?_
    refine Or.inl ⟨_, _, hto, ?_⟩
    repeat refine hX _ _ _ _ _ _ _ _ _ _ _ _ _ _ rfl ?_
    by_cases hk : tK tx L b = 1
    · refine br_f (show ¬ ¬ nI (tK tx L b) = nI 1 from fun h => h (congrArg nI hk)) ?_
      iterate 6 (refine hX _ _ _ _ _ _ _ _ _ _ _ _ _ _ rfl ?_)
      rw [show nI e - nI b = nI (e - b) from pk_sub (by omega)]
      iterate 1 (refine hX _ _ _ _ _ _ _ _ _ _ _ _ _ _ rfl ?_)
      by_cases h2 : e - b ≤ most
      · refine br_t (show nI (e - b) ≤ nI most from nI_le h2 (by omega)) ?_
        iterate 3 (refine hX _ _ _ _ _ _ _ _ _ _ _ _ _ _ rfl ?_)
        exact loop (e - b) b (by omega) (Nat.le_refl _) hk h2 rfl
      · refine br_f (show ¬ nI (e - b) ≤ nI most from nI_ge (by omega) (by omega)) ?_
        repeat refine hX _ _ _ _ _ _ _ _ _ _ _ _ _ _ rfl ?_
        exact ⟨Or.inl rfl, by rw [decide_eq_false h2, Bool.false_and, Bool.and_false]; rfl, rfl⟩
    · refine br_t (show ¬ nI (tK tx L b) = nI 1 from fun h => hk ((nI_eq (by omega) (by omega)).mp h)) ?_
      repeat refine hX _ _ _ _ _ _ _ _ _ _ _ _ _ _ rfl ?_
      exact ⟨Or.inl rfl, by rw [decide_eq_false hk, Bool.false_and]; rfl, rfl⟩
  case true =>
    (refine exI rfl rfl ?_; intro X hX)
    have loop : ∀ (n i : Nat), i + n = e → b ≤ i → tK tx L b = 1 → e - b ≤ most → (lowF tx n i = lowF tx (e - b) b) → X 32 [some (.ref 1), some (.int (nI most)), some (.int (nI i))] [] (hC true (s_cRd c (rT (cRd c) (nI b) (nI e) (nI (tK tx L b)))), hm) 0 0 := by
      intro n
      induction n with
      | zero =>
        intro i hi hbi h1 h2 h3
        repeat refine hX _ _ _ _ _ _ _ _ _ _ _ _ _ _ rfl ?_
        refine br_t (show nI e ≤ nI i from nI_le (by omega) (by omega)) ?_
        repeat refine hX _ _ _ _ _ _ _ _ _ _ _ _ _ _ rfl ?_
        exact ⟨Or.inr rfl, by rw [decide_eq_true h1, decide_eq_true h2, ← h3]; rfl, rfl⟩
      | succ n ih =>
        intro i hi hbi h1 h2 h3
        have hti := hlt i (by omega)
        rw [lowF] at h3
        repeat refine hX _ _ _ _ _ _ _ _ _ _ _ _ _ _ rfl ?_
        refine br_f (show ¬ nI e ≤ nI i from nI_ge (by omega) (by omega)) ?_
        repeat refine hX _ _ _ _ _ _ _ _ _ _ _ _ _ _ rfl ?_
        refine ⟨vp_in_nI (by omega) (by decide), ?_⟩
        rw [nI_clamp (by omega)]
        rw [htx i (by omega)]
        repeat refine hX _ _ _ _ _ _ _ _ _ _ _ _ _ _ rfl ?_
        by_cases h102 : tx i ≤ 102
        · rw [decide_eq_true h102, Bool.true_and] at h3
          refine br_t (show nI (tx i) ≤ nI 102 from nI_le h102 (by decide)) ?_
          iterate 2 (refine hX _ _ _ _ _ _ _ _ _ _ _ _ _ _ rfl ?_)
          rw [nI_1]
          exact ih (i + 1) (by omega) (by omega) h1 h2 h3
        · rw [decide_eq_false h102, Bool.false_and] at h3
          refine br_f (show ¬ nI (tx i) ≤ nI 102 from nI_ge (by omega) (by omega)) ?_
          repeat refine hX _ _ _ _ _ _ _ _ _ _ _ _ _ _ rfl ?_
          exact ⟨Or.inl rfl, by rw [← h3, Bool.and_false, Bool.and_false]; rfl, rfl⟩
    repeat refine hX _ _ _ _ _ _ _ _ _ _ _ _ _ _ rfl ?_
    refine Or.inl ⟨_, _, hto, ?_⟩
    repeat refine hX _ _ _ _ _ _ _ _ _ _ _ _ _ _ rfl ?_
    by_cases hk : tK tx L b = 1
    · refine br_f (show ¬ ¬ nI (tK tx L b) = nI 1 from fun h => h (congrArg nI hk)) ?_
      iterate 6 (refine hX _ _ _ _ _ _ _ _ _ _ _ _ _ _ rfl ?_)
      rw [show nI e - nI b = nI (e - b) from pk_sub (by omega)]
      iterate 1 (refine hX _ _ _ _ _ _ _ _ _ _ _ _ _ _ rfl ?_)
      by_cases h2 : e - b ≤ most
      · refine br_t (show nI (e - b) ≤ nI most from nI_le h2 (by omega)) ?_
        iterate 3 (refine hX _ _ _ _ _ _ _ _ _ _ _ _ _ _ rfl ?_)
        exact loop (e - b) b (by omega) (Nat.le_refl _) hk h2 rfl
      · refine br_f (show ¬ nI (e - b) ≤ nI most from nI_ge (by omega) (by omega)) ?_
        repeat refine hX _ _ _ _ _ _ _ _ _ _ _ _ _ _ rfl ?_
        exact ⟨Or.inl rfl, by rw [decide_eq_false h2, Bool.false_and, Bool.and_false]; rfl, rfl⟩
    · refine br_t (show ¬ nI (tK tx L b) = nI 1 from fun h => hk ((nI_eq (by omega) (by omega)).mp h)) ?_
      repeat refine hX _ _ _ _ _ _ _ _ _ _ _ _ _ _ rfl ?_
      exact ⟨Or.inl rfl, by rw [decide_eq_false hk, Bool.false_and]; rfl, rfl⟩
