/-! ===== the reading of a town ===== -/
abbrev nb (tx : aF) (L b : Nat) : Nat := tB tx L (tE tx L b)
def taken (ya : aF) (y : Nat) : Nat → Bool
  | 0 => false
  | n + 1 => taken ya y n || decide (ya n = y)
abbrev tSta (T : aT) (w i : Nat) : aT := (aNy T, aSi T, aNs T + 1, aNp T, aup (aWe T) (aNs T) w, aup (aIn T) (aNs T) i, aHo T, aSt T, aCr T, aWg T)
abbrev tOne (T : aT) (h s c w : Nat) : aT := (aNy T, aSi T, aNs T, aNp T + 1, aWe T, aIn T, aup (aHo T) (aNp T) h, aup (aSt T) (aNp T) s, aup (aCr T) (aNp T) c, aup (aWg T) (aNp T) w)
abbrev tYar (T : aT) (n : Nat) : aT := (n, aSi T, aNs T, aNp T, aWe T, aIn T, aHo T, aSt T, aCr T, aWg T)
abbrev tSig (T : aT) (n : Nat) : aT := (aNy T, n, aNs T, aNp T, aWe T, aIn T, aHo T, aSt T, aCr T, aWg T)
abbrev pR : Type := Sum Nat (Nat × aT × aF × Bool)
def rng (tx : aF) (L b lo hi : Nat) : Bool := decide (lo ≤ tN tx L b) && decide (tN tx L b ≤ hi)
def pEnd (tx : aF) (L b : Nat) (T : aT) (ya : aF) (si : Bool) : pR := bif decide (tK tx L b = 3) then .inr (b, T, ya, si) else .inl b
def pSta (tx : aF) (L b0 : Nat) (T : aT) (ya : aF) (si : Bool) : pR :=
  bif decide (aNs T = 6) then .inl b0 else
  bif rng tx L (nb tx L b0) 0 (aNy T - 1) && !taken ya (tN tx L (nb tx L b0)) (aNs T) then
    bif rng tx L (nb tx L (nb tx L b0)) 1 30 then
      bif tI tx L (nb tx L (nb tx L (nb tx L b0))) 1 then
        pEnd tx L (nb tx L (nb tx L (nb tx L (nb tx L b0)))) (tSta T (tN tx L (nb tx L (nb tx L b0))) (tx (nb tx L (nb tx L (nb tx L b0))) - 97)) (aup ya (aNs T) (tN tx L (nb tx L b0))) si
      else .inl (nb tx L (nb tx L (nb tx L b0)))
    else .inl (nb tx L (nb tx L b0))
  else .inl (nb tx L b0)
def pOne (tx : aF) (L b0 : Nat) (T : aT) (ya : aF) (si : Bool) : pR :=
  bif decide (aNp T = 6) then .inl b0 else
  bif rng tx L (nb tx L b0) 0 (aNy T - 1) then
    bif rng tx L (nb tx L (nb tx L b0)) 1 9 then
      bif rng tx L (nb tx L (nb tx L (nb tx L b0))) 0 3 then
        bif tI tx L (nb tx L (nb tx L (nb tx L (nb tx L b0)))) 6 then
          pEnd tx L (nb tx L (nb tx L (nb tx L (nb tx L (nb tx L b0))))) (tOne T (tN tx L (nb tx L b0)) (tN tx L (nb tx L (nb tx L b0))) (tN tx L (nb tx L (nb tx L (nb tx L b0)))) (tS tx L (nb tx L (nb tx L (nb tx L (nb tx L b0)))))) ya si
        else .inl (nb tx L (nb tx L (nb tx L (nb tx L b0))))
      else .inl (nb tx L (nb tx L (nb tx L b0)))
    else .inl (nb tx L (nb tx L b0))
  else .inl (nb tx L b0)
def pYar (tx : aF) (L b0 : Nat) (T : aT) (ya : aF) (si : Bool) (it : Nat) : pR :=
  bif decide (it = 0) then
    bif rng tx L (nb tx L b0) 2 10 then pEnd tx L (nb tx L (nb tx L b0)) (tYar T (tN tx L (nb tx L b0))) ya si
    else .inl (nb tx L b0)
  else .inl b0
def pSig (tx : aF) (L b0 : Nat) (T : aT) (ya : aF) (si : Bool) : pR :=
  bif si then .inl b0 else
  bif rng tx L (nb tx L b0) 0 3 then pEnd tx L (nb tx L (nb tx L b0)) (tSig T (tN tx L (nb tx L b0))) ya true
  else .inl (nb tx L b0)
def pItm (tx : aF) (L b0 : Nat) (T : aT) (ya : aF) (si : Bool) (it : Nat) : pR :=
  bif decide (tK tx L b0 = 1) && decide (tE tx L b0 - b0 = 1) then
    if tx b0 = 110 then pYar tx L b0 T ya si it
    else if tx b0 = 116 then pSta tx L b0 T ya si
    else if tx b0 = 112 then pOne tx L b0 T ya si
    else if tx b0 = 118 then pSig tx L b0 T ya si
    else .inl b0
  else .inl b0
def pLop (tx : aF) (L : Nat) : Nat → Nat → Nat → aT → aF → Bool → Sum Nat (Nat × aT × aF)
  | 0, _, _, _, _, _ => .inl 0
  | n + 1, it, b, T, ya, si => bif decide (tK tx L b = 0) then .inr (it, T, ya) else
    match pItm tx L b T ya si it with
    | .inl f => .inl f
    | .inr (bl, T', ya', si') => pLop tx L n (it + 1) (nb tx L bl) T' ya' si'
def isR (r : pR) : Bool := match r with
  | .inl _ => false
  | .inr _ => true
def tT0 : aT := (6, 1, 0, 0, fun _ => 0, fun _ => 0, fun _ => 0, fun _ => 0, fun _ => 0, fun _ => 0)
theorem nb_le (tx : aF) {L b : Nat} (h : b ≤ L) : tE tx L b ≤ nb tx L b ∧ nb tx L b ≤ L := tB_le tx (tE_le tx h).2.1
/-! the class: one town is filled while the other is told -/
def SRel (t : cT) (T : aT) (ya : aF) : Prop := tYards t = nI (aNy T) ∧ tSight t = nI (aSi T) ∧ tStatues t = nI (aNs T) ∧ tPeople t = nI (aNp T) ∧ (∀ j, j < aNs T → tStands t j = nI (ya j) ∧ tWeight t j = nI (aWe T j) ∧ tInsult t j = nI (aIn T j)) ∧ (∀ p, p < aNp T → tHome t p = nI (aHo T p) ∧ tStrong t p = nI (aSt T p) ∧ tCredit t p = nI (aCr T p) ∧ tWrongs t p = nI (aWg T p))
def PWf (T : aT) (ya : aF) : Prop := TWf T ∧ (∀ j, j < aNs T → ya j < aNy T) ∧ (∀ j, j < aNs T → ∀ k, k < aNs T → ya j = ya k → j = k)
theorem c_empty (S : zS) (d : Nat) (sw : Bool) (c : cS) (hm : List zC) : Ex S (d + 1) 0 0 27 [.ref (spR sw)] (hC sw c, hm) none (hC sw (s_cSp c (6, 1, 0, 0, (cSp c).2.2.2.2)), hm) := by
  cases sw
  all_goals
    (refine exI rfl rfl ?_; intro X hX)
    repeat refine hX _ _ _ _ _ _ _ _ _ _ _ _ _ _ rfl ?_
    exact ⟨rfl, rfl⟩
theorem c_isTaken (S : zS) (d : Nat) (sw : Bool) (c : cS) (hm : List zC) {T : aT} {ya : aF} (hA : TWf T) (hya : ∀ j, j < aNs T → ya j < aNy T) (hS : SRel (cSp c) T ya) {y : Nat} (hy : y < 1000) : Ex S (d + 1) 0 0 31 [.ref (spR sw), .int (nI y)] (hC sw c, hm) (some (.int (b2i (taken ya y (aNs T))))) (hC sw c, hm) := by
  have hns := hA.2.2.2.1
  have hny := hA.2.1
  have hn := hS.2.2.1
  have hs := hS.2.2.2.2.1
  have hmono : ∀ k j, taken ya y j = true → taken ya y (j + k) = true := by
    intro k
    induction k with
    | zero => intro j h; exact h
    | succ k ih => intro j h; rw [← Nat.add_assoc, taken, ih j h, Bool.true_or]
  cases sw
  case false =>
    (refine exI rfl rfl ?_; intro X hX)
    have loop : ∀ (k j : Nat), j + k = aNs T → taken ya y j = false → X 2 [some (.ref 3), some (.int (nI y)), some (.int (nI j))] [] (hC false c, hm) 0 0 := by
      intro k
      induction k with
      | zero =>
        intro j hj ht
        repeat refine hX _ _ _ _ _ _ _ _ _ _ _ _ _ _ rfl ?_
        rw [hn]
        refine br_t (show nI (aNs T) ≤ nI j from nI_le (by omega) (by omega)) ?_
        repeat refine hX _ _ _ _ _ _ _ _ _ _ _ _ _ _ rfl ?_
        exact ⟨Or.inl rfl, by rw [← show j = aNs T by omega, ht]; rfl, rfl⟩
      | succ k ih =>
        intro j hj ht
        have hyj := hya j (by omega)
        repeat refine hX _ _ _ _ _ _ _ _ _ _ _ _ _ _ rfl ?_
        rw [hn]
        refine br_f (show ¬ nI (aNs T) ≤ nI j from nI_ge (by omega) (by omega)) ?_
        repeat refine hX _ _ _ _ _ _ _ _ _ _ _ _ _ _ rfl ?_
        refine ⟨vp_in_nI (by omega) (by decide), ?_⟩
        rw [nI_clamp (by omega)]
        rw [(hs j (by omega)).1]
        repeat refine hX _ _ _ _ _ _ _ _ _ _ _ _ _ _ rfl ?_
        by_cases he : ya j = y
        · refine br_f (show ¬ ¬ nI (ya j) = nI y from fun h => h (congrArg nI he)) ?_
          repeat refine hX _ _ _ _ _ _ _ _ _ _ _ _ _ _ rfl ?_
          have := hmono k (j + 1) (by rw [taken, decide_eq_true he, Bool.or_true])
          rw [show j + 1 + k = aNs T by omega] at this
          exact ⟨Or.inr rfl, by rw [this]; rfl, rfl⟩
        · refine br_t (show ¬ nI (ya j) = nI y from fun h => he ((nI_eq (by omega) (by omega)).mp h)) ?_
          iterate 2 (refine hX _ _ _ _ _ _ _ _ _ _ _ _ _ _ rfl ?_)
          rw [nI_1]
          exact ih (j + 1) (by omega) (by rw [taken, ht, decide_eq_false he]; rfl)
    iterate 2 (refine hX _ _ _ _ _ _ _ _ _ _ _ _ _ _ rfl ?_)
    exact loop (aNs T) 0 (by omega) rfl
  case true =>
    (refine exI rfl rfl ?_; intro X hX)
    have loop : ∀ (k j : Nat), j + k = aNs T → taken ya y j = false → X 2 [some (.ref 12), some (.int (nI y)), some (.int (nI j))] [] (hC true c, hm) 0 0 := by
      intro k
      induction k with
      | zero =>
        intro j hj ht
        repeat refine hX _ _ _ _ _ _ _ _ _ _ _ _ _ _ rfl ?_
        rw [hn]
        refine br_t (show nI (aNs T) ≤ nI j from nI_le (by omega) (by omega)) ?_
        repeat refine hX _ _ _ _ _ _ _ _ _ _ _ _ _ _ rfl ?_
        exact ⟨Or.inl rfl, by rw [← show j = aNs T by omega, ht]; rfl, rfl⟩
      | succ k ih =>
        intro j hj ht
        have hyj := hya j (by omega)
        repeat refine hX _ _ _ _ _ _ _ _ _ _ _ _ _ _ rfl ?_
        rw [hn]
        refine br_f (show ¬ nI (aNs T) ≤ nI j from nI_ge (by omega) (by omega)) ?_
        repeat refine hX _ _ _ _ _ _ _ _ _ _ _ _ _ _ rfl ?_
        refine ⟨vp_in_nI (by omega) (by decide), ?_⟩
        rw [nI_clamp (by omega)]
        rw [(hs j (by omega)).1]
        repeat refine hX _ _ _ _ _ _ _ _ _ _ _ _ _ _ rfl ?_
        by_cases he : ya j = y
        · refine br_f (show ¬ ¬ nI (ya j) = nI y from fun h => h (congrArg nI he)) ?_
          repeat refine hX _ _ _ _ _ _ _ _ _ _ _ _ _ _ rfl ?_
          have := hmono k (j + 1) (by rw [taken, decide_eq_true he, Bool.or_true])
          rw [show j + 1 + k = aNs T by omega] at this
          exact ⟨Or.inr rfl, by rw [this]; rfl, rfl⟩
        · refine br_t (show ¬ nI (ya j) = nI y from fun h => he ((nI_eq (by omega) (by omega)).mp h)) ?_
          iterate 2 (refine hX _ _ _ _ _ _ _ _ _ _ _ _ _ _ rfl ?_)
          rw [nI_1]
          exact ih (j + 1) (by omega) (by rw [taken, ht, decide_eq_false he]; rfl)
    iterate 2 (refine hX _ _ _ _ _ _ _ _ _ _ _ _ _ _ rfl ?_)
    exact loop (aNs T) 0 (by omega) rfl
abbrev qSta (t : cT) (n : Nat) (m y w i : Int32) : cT := (tYards t, tSight t, m, tPeople t, upd (tStands t) n y, upd (tWeight t) n w, upd (tInsult t) n i, tHome t, tStrong t, tCredit t, tWrongs t, tInsulted t)
abbrev qOne (t : cT) (n : Nat) (m h s c w : Int32) : cT := (tYards t, tSight t, tStatues t, m, tStands t, tWeight t, tInsult t, upd (tHome t) n h, upd (tStrong t) n s, upd (tCredit t) n c, upd (tWrongs t) n w, tInsulted t)
theorem c_addStatue (S : zS) (d : Nat) (sw : Bool) (c : cS) (hm : List zC) {n : Nat} (hn : tStatues (cSp c) = nI n) (h6 : n < 6) (y w i : Int32) : Ex S (d + 1) 0 0 32 [.ref (spR sw), .int y, .int w, .int i] (hC sw c, hm) none (hC sw (s_cSp c (qSta (cSp c) n (nI (n + 1)) y w i)), hm) := by
  cases sw
  case false =>
    (refine exI rfl rfl ?_; intro X hX)
    repeat refine hX _ _ _ _ _ _ _ _ _ _ _ _ _ _ rfl ?_
    refine br_f (show ¬ nI 6 ≤ tStatues (cSp c) from by rw [hn]; exact nI_ge h6 (by decide)) ?_
    repeat refine hX _ _ _ _ _ _ _ _ _ _ _ _ _ _ rfl ?_
    rw [hn]
    refine ⟨vp_in_nI (by omega) (by decide), ?_⟩
    rw [nI_clamp (by omega)]
    repeat refine hX _ _ _ _ _ _ _ _ _ _ _ _ _ _ rfl ?_
    rw [hn]
    refine ⟨vp_in_nI (by omega) (by decide), ?_⟩
    rw [nI_clamp (by omega)]
    repeat refine hX _ _ _ _ _ _ _ _ _ _ _ _ _ _ rfl ?_
    rw [hn]
    refine ⟨vp_in_nI (by omega) (by decide), ?_⟩
    rw [nI_clamp (by omega)]
    repeat refine hX _ _ _ _ _ _ _ _ _ _ _ _ _ _ rfl ?_
    refine ⟨rfl, ?_⟩
    rw [← nI_1, ← hn]
    rfl
  case true =>
    (refine exI rfl rfl ?_; intro X hX)
    repeat refine hX _ _ _ _ _ _ _ _ _ _ _ _ _ _ rfl ?_
    refine br_f (show ¬ nI 6 ≤ tStatues (cSp c) from by rw [hn]; exact nI_ge h6 (by decide)) ?_
    repeat refine hX _ _ _ _ _ _ _ _ _ _ _ _ _ _ rfl ?_
    rw [hn]
    refine ⟨vp_in_nI (by omega) (by decide), ?_⟩
    rw [nI_clamp (by omega)]
    repeat refine hX _ _ _ _ _ _ _ _ _ _ _ _ _ _ rfl ?_
    rw [hn]
    refine ⟨vp_in_nI (by omega) (by decide), ?_⟩
    rw [nI_clamp (by omega)]
    repeat refine hX _ _ _ _ _ _ _ _ _ _ _ _ _ _ rfl ?_
    rw [hn]
    refine ⟨vp_in_nI (by omega) (by decide), ?_⟩
    rw [nI_clamp (by omega)]
    repeat refine hX _ _ _ _ _ _ _ _ _ _ _ _ _ _ rfl ?_
    refine ⟨rfl, ?_⟩
    rw [← nI_1, ← hn]
    rfl
theorem c_addOne (S : zS) (d : Nat) (sw : Bool) (c : cS) (hm : List zC) {n : Nat} (hn : tPeople (cSp c) = nI n) (h6 : n < 6) (h s cr w : Int32) : Ex S (d + 1) 0 0 33 [.ref (spR sw), .int h, .int s, .int cr, .int w] (hC sw c, hm) none (hC sw (s_cSp c (qOne (cSp c) n (nI (n + 1)) h s cr w)), hm) := by
  cases sw
  case false =>
    (refine exI rfl rfl ?_; intro X hX)
    repeat refine hX _ _ _ _ _ _ _ _ _ _ _ _ _ _ rfl ?_
    refine br_f (show ¬ nI 6 ≤ tPeople (cSp c) from by rw [hn]; exact nI_ge h6 (by decide)) ?_
    repeat refine hX _ _ _ _ _ _ _ _ _ _ _ _ _ _ rfl ?_
    rw [hn]
    refine ⟨vp_in_nI (by omega) (by decide), ?_⟩
    rw [nI_clamp (by omega)]
    repeat refine hX _ _ _ _ _ _ _ _ _ _ _ _ _ _ rfl ?_
    rw [hn]
    refine ⟨vp_in_nI (by omega) (by decide), ?_⟩
    rw [nI_clamp (by omega)]
    repeat refine hX _ _ _ _ _ _ _ _ _ _ _ _ _ _ rfl ?_
    rw [hn]
    refine ⟨vp_in_nI (by omega) (by decide), ?_⟩
    rw [nI_clamp (by omega)]
    repeat refine hX _ _ _ _ _ _ _ _ _ _ _ _ _ _ rfl ?_
    rw [hn]
    refine ⟨vp_in_nI (by omega) (by decide), ?_⟩
    rw [nI_clamp (by omega)]
    repeat refine hX _ _ _ _ _ _ _ _ _ _ _ _ _ _ rfl ?_
    refine ⟨rfl, ?_⟩
    rw [← nI_1, ← hn]
    rfl
  case true =>
    (refine exI rfl rfl ?_; intro X hX)
    repeat refine hX _ _ _ _ _ _ _ _ _ _ _ _ _ _ rfl ?_
    refine br_f (show ¬ nI 6 ≤ tPeople (cSp c) from by rw [hn]; exact nI_ge h6 (by decide)) ?_
    repeat refine hX _ _ _ _ _ _ _ _ _ _ _ _ _ _ rfl ?_
    rw [hn]
    refine ⟨vp_in_nI (by omega) (by decide), ?_⟩
    rw [nI_clamp (by omega)]
    repeat refine hX _ _ _ _ _ _ _ _ _ _ _ _ _ _ rfl ?_
    rw [hn]
    refine ⟨vp_in_nI (by omega) (by decide), ?_⟩
    rw [nI_clamp (by omega)]
    repeat refine hX _ _ _ _ _ _ _ _ _ _ _ _ _ _ rfl ?_
    rw [hn]
    refine ⟨vp_in_nI (by omega) (by decide), ?_⟩
    rw [nI_clamp (by omega)]
    repeat refine hX _ _ _ _ _ _ _ _ _ _ _ _ _ _ rfl ?_
    rw [hn]
    refine ⟨vp_in_nI (by omega) (by decide), ?_⟩
    rw [nI_clamp (by omega)]
    repeat refine hX _ _ _ _ _ _ _ _ _ _ _ _ _ _ rfl ?_
    refine ⟨rfl, ?_⟩
    rw [← nI_1, ← hn]
    rfl
