def cpf (src old : cF) (n : Nat) : cF := fun j => if j < n then src j else old j
theorem cpf_0 (src old : cF) : cpf src old 0 = old := by funext j; simp [cpf]
theorem cpf_s (src old : cF) (n : Nat) : upd (cpf src old n) n (src n) = cpf src old (n + 1) := by
  funext j
  unfold upd cpf
  by_cases h : j = n
  · subst h; simp
  · rw [if_neg h]
    by_cases h2 : j < n
    · rw [if_pos h2, if_pos (by omega)]
    · rw [if_neg h2, if_neg (by omega)]
def cpN (s o : cN) : cN := (nCome s, cpf (nYardOf s) (nYardOf o) 6, cpf (nClaimed s) (nClaimed o) 6)
theorem cpN_rel {A : aT} (hA : TWf A) {s : cN} (o : cN) {N : aN} (h : NRel A s N) : NRel A (cpN s o) N := by
  have hns := hA.2.2.2.1
  refine ⟨h.1, fun j hj => ?_, fun j hj => ?_⟩
  · show cpf (nYardOf s) (nYardOf o) 6 j = _
    rw [cpf, if_pos (by omega)]; exact h.2.1 j hj
  · show cpf (nClaimed s) (nClaimed o) 6 j = _
    rw [cpf, if_pos hj]; exact h.2.2 j hj
theorem c_copy_k0 (S : zS) (d : Nat) (sw : Bool) (c : cS) (hm : List zC) : Ex S (d + 1) 0 0 24 [.ref 29, .ref 21] (hC sw c, hm) none (hC sw (s_cI0 c (cpN (cSc c) (cI0 c))), hm) := by
  cases sw
  case false =>
    (refine exI rfl rfl ?_; intro X hX)
    have loop : ∀ (k i : Nat), i + k = 6 → X 10 [some (.ref 29), some (.ref 21), some (.int (nI i))] [] (hC false (s_cI0 c (nCome (cSc c), cpf (nYardOf (cSc c)) (nYardOf (cI0 c)) i, cpf (nClaimed (cSc c)) (nClaimed (cI0 c)) i)), hm) 0 0 := by
      intro k
      induction k with
      | zero =>
        intro i hi
        have : i = 6 := by omega
        subst this
        repeat refine hX _ _ _ _ _ _ _ _ _ _ _ _ _ _ rfl ?_
        refine br_t (show nI 6 ≤ nI 6 from nI_le (by omega) (by decide)) ?_
        repeat refine hX _ _ _ _ _ _ _ _ _ _ _ _ _ _ rfl ?_
        exact ⟨rfl, rfl⟩
      | succ k ih =>
        intro i hi
        repeat refine hX _ _ _ _ _ _ _ _ _ _ _ _ _ _ rfl ?_
        refine br_f (show ¬ nI 6 ≤ nI i from nI_ge (by omega) (by decide)) ?_
        repeat refine hX _ _ _ _ _ _ _ _ _ _ _ _ _ _ rfl ?_
        refine ⟨vp_in_nI (by omega) (by decide), ?_⟩
        rw [nI_clamp (by omega)]
        repeat refine hX _ _ _ _ _ _ _ _ _ _ _ _ _ _ rfl ?_
        refine ⟨vp_in_nI (by omega) (by decide), ?_⟩
        rw [nI_clamp (by omega)]
        repeat refine hX _ _ _ _ _ _ _ _ _ _ _ _ _ _ rfl ?_
        refine ⟨vp_in_nI (by omega) (by decide), ?_⟩
        rw [nI_clamp (by omega)]
        repeat refine hX _ _ _ _ _ _ _ _ _ _ _ _ _ _ rfl ?_
        refine ⟨vp_in_nI (by omega) (by decide), ?_⟩
        rw [nI_clamp (by omega)]
        iterate 2 (refine hX _ _ _ _ _ _ _ _ _ _ _ _ _ _ rfl ?_)
        rw [nI_1]
        have h7 := ih (i + 1) (by omega)
        rw [← cpf_s, ← cpf_s] at h7
        exact h7
    iterate 6 (refine hX _ _ _ _ _ _ _ _ _ _ _ _ _ _ rfl ?_)
    have h8 := loop 6 0 (by omega)
    rw [cpf_0, cpf_0] at h8
    exact h8
  case true =>
    (refine exI rfl rfl ?_; intro X hX)
    have loop : ∀ (k i : Nat), i + k = 6 → X 10 [some (.ref 29), some (.ref 21), some (.int (nI i))] [] (hC true (s_cI0 c (nCome (cSc c), cpf (nYardOf (cSc c)) (nYardOf (cI0 c)) i, cpf (nClaimed (cSc c)) (nClaimed (cI0 c)) i)), hm) 0 0 := by
      intro k
      induction k with
      | zero =>
        intro i hi
        have : i = 6 := by omega
        subst this
        repeat refine hX _ _ _ _ _ _ _ _ _ _ _ _ _ _ rfl ?_
        refine br_t (show nI 6 ≤ nI 6 from nI_le (by omega) (by decide)) ?_
        repeat refine hX _ _ _ _ _ _ _ _ _ _ _ _ _ _ rfl ?_
        exact ⟨rfl, rfl⟩
      | succ k ih =>
        intro i hi
        repeat refine hX _ _ _ _ _ _ _ _ _ _ _ _ _ _ rfl ?_
        refine br_f (show ¬ nI 6 ≤ nI i from nI_ge (by omega) (by decide)) ?_
        repeat refine hX _ _ _ _ _ _ _ _ _ _ _ _ _ _ rfl ?_
        refine ⟨vp_in_nI (by omega) (by decide), ?_⟩
        rw [nI_clamp (by omega)]
        repeat refine hX _ _ _ _ _ _ _ _ _ _ _ _ _ _ rfl ?_
        refine ⟨vp_in_nI (by omega) (by decide), ?_⟩
        rw [nI_clamp (by omega)]
        repeat refine hX _ _ _ _ _ _ _ _ _ _ _ _ _ _ rfl ?_
        refine ⟨vp_in_nI (by omega) (by decide), ?_⟩
        rw [nI_clamp (by omega)]
        repeat refine hX _ _ _ _ _ _ _ _ _ _ _ _ _ _ rfl ?_
        refine ⟨vp_in_nI (by omega) (by decide), ?_⟩
        rw [nI_clamp (by omega)]
        iterate 2 (refine hX _ _ _ _ _ _ _ _ _ _ _ _ _ _ rfl ?_)
        rw [nI_1]
        have h7 := ih (i + 1) (by omega)
        rw [← cpf_s, ← cpf_s] at h7
        exact h7
    iterate 6 (refine hX _ _ _ _ _ _ _ _ _ _ _ _ _ _ rfl ?_)
    have h8 := loop 6 0 (by omega)
    rw [cpf_0, cpf_0] at h8
    exact h8
theorem c_copy_k1 (S : zS) (d : Nat) (sw : Bool) (c : cS) (hm : List zC) : Ex S (d + 1) 0 0 24 [.ref 32, .ref 21] (hC sw c, hm) none (hC sw (s_cI1 c (cpN (cSc c) (cI1 c))), hm) := by
  cases sw
  case false =>
    (refine exI rfl rfl ?_; intro X hX)
    have loop : ∀ (k i : Nat), i + k = 6 → X 10 [some (.ref 32), some (.ref 21), some (.int (nI i))] [] (hC false (s_cI1 c (nCome (cSc c), cpf (nYardOf (cSc c)) (nYardOf (cI1 c)) i, cpf (nClaimed (cSc c)) (nClaimed (cI1 c)) i)), hm) 0 0 := by
      intro k
      induction k with
      | zero =>
        intro i hi
        have : i = 6 := by omega
        subst this
        repeat refine hX _ _ _ _ _ _ _ _ _ _ _ _ _ _ rfl ?_
        refine br_t (show nI 6 ≤ nI 6 from nI_le (by omega) (by decide)) ?_
        repeat refine hX _ _ _ _ _ _ _ _ _ _ _ _ _ _ rfl ?_
        exact ⟨rfl, rfl⟩
      | succ k ih =>
        intro i hi
        repeat refine hX _ _ _ _ _ _ _ _ _ _ _ _ _ _ rfl ?_
        refine br_f (show ¬ nI 6 ≤ nI i from nI_ge (by omega) (by decide)) ?_
        repeat refine hX _ _ _ _ _ _ _ _ _ _ _ _ _ _ rfl ?_
        refine ⟨vp_in_nI (by omega) (by decide), ?_⟩
        rw [nI_clamp (by omega)]
        repeat refine hX _ _ _ _ _ _ _ _ _ _ _ _ _ _ rfl ?_
        refine ⟨vp_in_nI (by omega) (by decide), ?_⟩
        rw [nI_clamp (by omega)]
        repeat refine hX _ _ _ _ _ _ _ _ _ _ _ _ _ _ rfl ?_
        refine ⟨vp_in_nI (by omega) (by decide), ?_⟩
        rw [nI_clamp (by omega)]
        repeat refine hX _ _ _ _ _ _ _ _ _ _ _ _ _ _ rfl ?_
        refine ⟨vp_in_nI (by omega) (by decide), ?_⟩
        rw [nI_clamp (by omega)]
        iterate 2 (refine hX _ _ _ _ _ _ _ _ _ _ _ _ _ _ rfl ?_)
        rw [nI_1]
        have h7 := ih (i + 1) (by omega)
        rw [← cpf_s, ← cpf_s] at h7
        exact h7
    iterate 6 (refine hX _ _ _ _ _ _ _ _ _ _ _ _ _ _ rfl ?_)
    have h8 := loop 6 0 (by omega)
    rw [cpf_0, cpf_0] at h8
    exact h8
  case true =>
    (refine exI rfl rfl ?_; intro X hX)
    have loop : ∀ (k i : Nat), i + k = 6 → X 10 [some (.ref 32), some (.ref 21), some (.int (nI i))] [] (hC true (s_cI1 c (nCome (cSc c), cpf (nYardOf (cSc c)) (nYardOf (cI1 c)) i, cpf (nClaimed (cSc c)) (nClaimed (cI1 c)) i)), hm) 0 0 := by
      intro k
      induction k with
      | zero =>
        intro i hi
        have : i = 6 := by omega
        subst this
        repeat refine hX _ _ _ _ _ _ _ _ _ _ _ _ _ _ rfl ?_
        refine br_t (show nI 6 ≤ nI 6 from nI_le (by omega) (by decide)) ?_
        repeat refine hX _ _ _ _ _ _ _ _ _ _ _ _ _ _ rfl ?_
        exact ⟨rfl, rfl⟩
      | succ k ih =>
        intro i hi
        repeat refine hX _ _ _ _ _ _ _ _ _ _ _ _ _ _ rfl ?_
        refine br_f (show ¬ nI 6 ≤ nI i from nI_ge (by omega) (by decide)) ?_
        repeat refine hX _ _ _ _ _ _ _ _ _ _ _ _ _ _ rfl ?_
        refine ⟨vp_in_nI (by omega) (by decide), ?_⟩
        rw [nI_clamp (by omega)]
        repeat refine hX _ _ _ _ _ _ _ _ _ _ _ _ _ _ rfl ?_
        refine ⟨vp_in_nI (by omega) (by decide), ?_⟩
        rw [nI_clamp (by omega)]
        repeat refine hX _ _ _ _ _ _ _ _ _ _ _ _ _ _ rfl ?_
        refine ⟨vp_in_nI (by omega) (by decide), ?_⟩
        rw [nI_clamp (by omega)]
        repeat refine hX _ _ _ _ _ _ _ _ _ _ _ _ _ _ rfl ?_
        refine ⟨vp_in_nI (by omega) (by decide), ?_⟩
        rw [nI_clamp (by omega)]
        iterate 2 (refine hX _ _ _ _ _ _ _ _ _ _ _ _ _ _ rfl ?_)
        rw [nI_1]
        have h7 := ih (i + 1) (by omega)
        rw [← cpf_s, ← cpf_s] at h7
        exact h7
    iterate 6 (refine hX _ _ _ _ _ _ _ _ _ _ _ _ _ _ rfl ?_)
    have h8 := loop 6 0 (by omega)
    rw [cpf_0, cpf_0] at h8
    exact h8
theorem c_copy_b0 (S : zS) (d : Nat) (sw : Bool) (c : cS) (hm : List zC) : Ex S (d + 1) 0 0 24 [.ref 21, .ref 29] (hC sw c, hm) none (hC sw (s_cSc c (cpN (cI0 c) (cSc c))), hm) := by
  cases sw
  case false =>
    (refine exI rfl rfl ?_; intro X hX)
    have loop : ∀ (k i : Nat), i + k = 6 → X 10 [some (.ref 21), some (.ref 29), some (.int (nI i))] [] (hC false (s_cSc c (nCome (cI0 c), cpf (nYardOf (cI0 c)) (nYardOf (cSc c)) i, cpf (nClaimed (cI0 c)) (nClaimed (cSc c)) i)), hm) 0 0 := by
      intro k
      induction k with
      | zero =>
        intro i hi
        have : i = 6 := by omega
        subst this
        repeat refine hX _ _ _ _ _ _ _ _ _ _ _ _ _ _ rfl ?_
        refine br_t (show nI 6 ≤ nI 6 from nI_le (by omega) (by decide)) ?_
        repeat refine hX _ _ _ _ _ _ _ _ _ _ _ _ _ _ rfl ?_
        exact ⟨rfl, rfl⟩
      | succ k ih =>
        intro i hi
        repeat refine hX _ _ _ _ _ _ _ _ _ _ _ _ _ _ rfl ?_
        refine br_f (show ¬ nI 6 ≤ nI i from nI_ge (by omega) (by decide)) ?_
        repeat refine hX _ _ _ _ _ _ _ _ _ _ _ _ _ _ rfl ?_
        refine ⟨vp_in_nI (by omega) (by decide), ?_⟩
        rw [nI_clamp (by omega)]
        repeat refine hX _ _ _ _ _ _ _ _ _ _ _ _ _ _ rfl ?_
        refine ⟨vp_in_nI (by omega) (by decide), ?_⟩
        rw [nI_clamp (by omega)]
        repeat refine hX _ _ _ _ _ _ _ _ _ _ _ _ _ _ rfl ?_
        refine ⟨vp_in_nI (by omega) (by decide), ?_⟩
        rw [nI_clamp (by omega)]
        repeat refine hX _ _ _ _ _ _ _ _ _ _ _ _ _ _ rfl ?_
        refine ⟨vp_in_nI (by omega) (by decide), ?_⟩
        rw [nI_clamp (by omega)]
        iterate 2 (refine hX _ _ _ _ _ _ _ _ _ _ _ _ _ _ rfl ?_)
        rw [nI_1]
        have h7 := ih (i + 1) (by omega)
        rw [← cpf_s, ← cpf_s] at h7
        exact h7
    iterate 6 (refine hX _ _ _ _ _ _ _ _ _ _ _ _ _ _ rfl ?_)
    have h8 := loop 6 0 (by omega)
    rw [cpf_0, cpf_0] at h8
    exact h8
  case true =>
    (refine exI rfl rfl ?_; intro X hX)
    have loop : ∀ (k i : Nat), i + k = 6 → X 10 [some (.ref 21), some (.ref 29), some (.int (nI i))] [] (hC true (s_cSc c (nCome (cI0 c), cpf (nYardOf (cI0 c)) (nYardOf (cSc c)) i, cpf (nClaimed (cI0 c)) (nClaimed (cSc c)) i)), hm) 0 0 := by
      intro k
      induction k with
      | zero =>
        intro i hi
        have : i = 6 := by omega
        subst this
        repeat refine hX _ _ _ _ _ _ _ _ _ _ _ _ _ _ rfl ?_
        refine br_t (show nI 6 ≤ nI 6 from nI_le (by omega) (by decide)) ?_
        repeat refine hX _ _ _ _ _ _ _ _ _ _ _ _ _ _ rfl ?_
        exact ⟨rfl, rfl⟩
      | succ k ih =>
        intro i hi
        repeat refine hX _ _ _ _ _ _ _ _ _ _ _ _ _ _ rfl ?_
        refine br_f (show ¬ nI 6 ≤ nI i from nI_ge (by omega) (by decide)) ?_
        repeat refine hX _ _ _ _ _ _ _ _ _ _ _ _ _ _ rfl ?_
        refine ⟨vp_in_nI (by omega) (by decide), ?_⟩
        rw [nI_clamp (by omega)]
        repeat refine hX _ _ _ _ _ _ _ _ _ _ _ _ _ _ rfl ?_
        refine ⟨vp_in_nI (by omega) (by decide), ?_⟩
        rw [nI_clamp (by omega)]
        repeat refine hX _ _ _ _ _ _ _ _ _ _ _ _ _ _ rfl ?_
        refine ⟨vp_in_nI (by omega) (by decide), ?_⟩
        rw [nI_clamp (by omega)]
        repeat refine hX _ _ _ _ _ _ _ _ _ _ _ _ _ _ rfl ?_
        refine ⟨vp_in_nI (by omega) (by decide), ?_⟩
        rw [nI_clamp (by omega)]
        iterate 2 (refine hX _ _ _ _ _ _ _ _ _ _ _ _ _ _ rfl ?_)
        rw [nI_1]
        have h7 := ih (i + 1) (by omega)
        rw [← cpf_s, ← cpf_s] at h7
        exact h7
    iterate 6 (refine hX _ _ _ _ _ _ _ _ _ _ _ _ _ _ rfl ?_)
    have h8 := loop 6 0 (by omega)
    rw [cpf_0, cpf_0] at h8
    exact h8
theorem c_copy_b1 (S : zS) (d : Nat) (sw : Bool) (c : cS) (hm : List zC) : Ex S (d + 1) 0 0 24 [.ref 21, .ref 32] (hC sw c, hm) none (hC sw (s_cSc c (cpN (cI1 c) (cSc c))), hm) := by
  cases sw
  case false =>
    (refine exI rfl rfl ?_; intro X hX)
    have loop : ∀ (k i : Nat), i + k = 6 → X 10 [some (.ref 21), some (.ref 32), some (.int (nI i))] [] (hC false (s_cSc c (nCome (cI1 c), cpf (nYardOf (cI1 c)) (nYardOf (cSc c)) i, cpf (nClaimed (cI1 c)) (nClaimed (cSc c)) i)), hm) 0 0 := by
      intro k
      induction k with
      | zero =>
        intro i hi
        have : i = 6 := by omega
        subst this
        repeat refine hX _ _ _ _ _ _ _ _ _ _ _ _ _ _ rfl ?_
        refine br_t (show nI 6 ≤ nI 6 from nI_le (by omega) (by decide)) ?_
        repeat refine hX _ _ _ _ _ _ _ _ _ _ _ _ _ _ rfl ?_
        exact ⟨rfl, rfl⟩
      | succ k ih =>
        intro i hi
        repeat refine hX _ _ _ _ _ _ _ _ _ _ _ _ _ _ rfl ?_
        refine br_f (show ¬ nI 6 ≤ nI i from nI_ge (by omega) (by decide)) ?_
        repeat refine hX _ _ _ _ _ _ _ _ _ _ _ _ _ _ rfl ?_
        refine ⟨vp_in_nI (by omega) (by decide), ?_⟩
        rw [nI_clamp (by omega)]
        repeat refine hX _ _ _ _ _ _ _ _ _ _ _ _ _ _ rfl ?_
        refine ⟨vp_in_nI (by omega) (by decide), ?_⟩
        rw [nI_clamp (by omega)]
        repeat refine hX _ _ _ _ _ _ _ _ _ _ _ _ _ _ rfl ?_
        refine ⟨vp_in_nI (by omega) (by decide), ?_⟩
        rw [nI_clamp (by omega)]
        repeat refine hX _ _ _ _ _ _ _ _ _ _ _ _ _ _ rfl ?_
        refine ⟨vp_in_nI (by omega) (by decide), ?_⟩
        rw [nI_clamp (by omega)]
        iterate 2 (refine hX _ _ _ _ _ _ _ _ _ _ _ _ _ _ rfl ?_)
        rw [nI_1]
        have h7 := ih (i + 1) (by omega)
        rw [← cpf_s, ← cpf_s] at h7
        exact h7
    iterate 6 (refine hX _ _ _ _ _ _ _ _ _ _ _ _ _ _ rfl ?_)
    have h8 := loop 6 0 (by omega)
    rw [cpf_0, cpf_0] at h8
    exact h8
  case true =>
    (refine exI rfl rfl ?_; intro X hX)
    have loop : ∀ (k i : Nat), i + k = 6 → X 10 [some (.ref 21), some (.ref 32), some (.int (nI i))] [] (hC true (s_cSc c (nCome (cI1 c), cpf (nYardOf (cI1 c)) (nYardOf (cSc c)) i, cpf (nClaimed (cI1 c)) (nClaimed (cSc c)) i)), hm) 0 0 := by
      intro k
      induction k with
      | zero =>
        intro i hi
        have : i = 6 := by omega
        subst this
        repeat refine hX _ _ _ _ _ _ _ _ _ _ _ _ _ _ rfl ?_
        refine br_t (show nI 6 ≤ nI 6 from nI_le (by omega) (by decide)) ?_
        repeat refine hX _ _ _ _ _ _ _ _ _ _ _ _ _ _ rfl ?_
        exact ⟨rfl, rfl⟩
      | succ k ih =>
        intro i hi
        repeat refine hX _ _ _ _ _ _ _ _ _ _ _ _ _ _ rfl ?_
        refine br_f (show ¬ nI 6 ≤ nI i from nI_ge (by omega) (by decide)) ?_
        repeat refine hX _ _ _ _ _ _ _ _ _ _ _ _ _ _ rfl ?_
        refine ⟨vp_in_nI (by omega) (by decide), ?_⟩
        rw [nI_clamp (by omega)]
        repeat refine hX _ _ _ _ _ _ _ _ _ _ _ _ _ _ rfl ?_
        refine ⟨vp_in_nI (by omega) (by decide), ?_⟩
        rw [nI_clamp (by omega)]
        repeat refine hX _ _ _ _ _ _ _ _ _ _ _ _ _ _ rfl ?_
        refine ⟨vp_in_nI (by omega) (by decide), ?_⟩
        rw [nI_clamp (by omega)]
        repeat refine hX _ _ _ _ _ _ _ _ _ _ _ _ _ _ rfl ?_
        refine ⟨vp_in_nI (by omega) (by decide), ?_⟩
        rw [nI_clamp (by omega)]
        iterate 2 (refine hX _ _ _ _ _ _ _ _ _ _ _ _ _ _ rfl ?_)
        rw [nI_1]
        have h7 := ih (i + 1) (by omega)
        rw [← cpf_s, ← cpf_s] at h7
        exact h7
    iterate 6 (refine hX _ _ _ _ _ _ _ _ _ _ _ _ _ _ rfl ?_)
    have h8 := loop 6 0 (by omega)
    rw [cpf_0, cpf_0] at h8
    exact h8
/-! the deeds, one by one -/
def hPk (k : Nat) : Nat := if k = 10 then 10 else k + 1
def hPH (k : Nat) (H : Nat → aN) (N : aN) : Nat → aN := if k = 10 then (fun j => if j < 9 then H (j + 1) else N) else aup H k N
abbrev uDo (a : aS) (N : aN) : aS := uNow a N (hPk (sK a)) (hPH (sK a) (sH a) (sN a))
theorem past_add {a : aS} {p : cP} (hk10 : sK a ≤ 10) (h : pKnown p = nI (sK a) ∧ ∀ j, j < sK a → DRel (sT a) (pDeed p j) (pThing p j) (pDetail p j) (hx a j) (hx a (j + 1))) {N' : aN} {dd t e : Int32} (hd : DRel (sT a) dd t e (sN a) N') : pKnown (pAdd p (sK a) dd t e) = nI (sK (uDo a N')) ∧ ∀ j, j < sK (uDo a N') → DRel (sT a) (pDeed (pAdd p (sK a) dd t e) j) (pThing (pAdd p (sK a) dd t e) j) (pDetail (pAdd p (sK a) dd t e) j) (hx (uDo a N') j) (hx (uDo a N') (j + 1)) := by
  obtain ⟨-, h2⟩ := h
  by_cases hk : sK a = 10
  · have e1 : pAdd p (sK a) dd t e = (nI 10, upd (shl (pDeed p) 9) 9 dd, upd (shl (pThing p) 9) 9 t, upd (shl (pDetail p) 9) 9 e) := by rw [pAdd, if_pos hk]
    have e2 : hPk (sK a) = 10 := by rw [hPk, if_pos hk]
    have e3 : hPH (sK a) (sH a) (sN a) = fun j => if j < 9 then sH a (j + 1) else sN a := by rw [hPH, if_pos hk]
    rw [e1]
    refine ⟨by show nI 10 = nI (hPk (sK a)); rw [e2], fun j hj => ?_⟩
    have hj : j < 10 := by rw [← e2]; exact hj
    have hxj : ∀ i, i < 10 → hx (uDo a N') i = if i < 9 then sH a (i + 1) else sN a := fun i hi => by
      unfold hx
      rw [if_pos (show i < sK (uDo a N') by show i < hPk (sK a); rw [e2]; exact hi)]
      show hPH (sK a) (sH a) (sN a) i = _
      rw [e3]
    have hx10 : hx (uDo a N') 10 = N' := by
      unfold hx
      rw [if_neg (show ¬ 10 < sK (uDo a N') by show ¬ 10 < hPk (sK a); rw [e2]; omega)]
    have hxa : ∀ i, hx a i = if i < 10 then sH a i else sN a := fun i => by unfold hx; rw [hk]
    by_cases h9 : j = 9
    · subst h9
      show DRel (sT a) (upd (shl (pDeed p) 9) 9 dd 9) (upd (shl (pThing p) 9) 9 t 9) (upd (shl (pDetail p) 9) 9 e 9) _ _
      rw [pk_us, pk_us, pk_us, hxj 9 (by omega), hx10]
      exact hd
    · show DRel (sT a) (upd (shl (pDeed p) 9) 9 dd j) (upd (shl (pThing p) 9) 9 t j) (upd (shl (pDetail p) 9) 9 e j) _ _
      rw [pk_un h9, pk_un h9, pk_un h9]
      have e4 : ∀ f : cF, shl f 9 j = f (j + 1) := fun f => by rw [shl, if_pos (by omega)]
      rw [e4, e4, e4, hxj j (by omega), hxj (j + 1) (by omega), if_pos (by omega)]
      have := h2 (j + 1) (by omega)
      rw [hxa (j + 1), hxa (j + 1 + 1), if_pos (by omega)] at this
      by_cases h8 : j + 1 < 9
      · rw [if_pos h8]
        rwa [if_pos (by omega)] at this
      · rw [if_neg h8]
        rwa [if_neg (by omega)] at this
  · have e1 : pAdd p (sK a) dd t e = (nI (sK a + 1), upd (pDeed p) (sK a) dd, upd (pThing p) (sK a) t, upd (pDetail p) (sK a) e) := by rw [pAdd, if_neg hk]
    have e2 : hPk (sK a) = sK a + 1 := by rw [hPk, if_neg hk]
    have e3 : hPH (sK a) (sH a) (sN a) = aup (sH a) (sK a) (sN a) := by rw [hPH, if_neg hk]
    rw [e1]
    refine ⟨by show nI (sK a + 1) = nI (hPk (sK a)); rw [e2], fun j hj => ?_⟩
    have hj : j < sK a + 1 := by rw [← e2]; exact hj
    have hxj : ∀ i, i < sK a + 1 → hx (uDo a N') i = hx a i := fun i hi => by
      unfold hx
      rw [if_pos (show i < sK (uDo a N') by show i < hPk (sK a); rw [e2]; exact hi)]
      show hPH (sK a) (sH a) (sN a) i = _
      rw [e3]
      by_cases h1 : i = sK a
      · rw [h1, aup_s, if_neg (by omega)]
      · rw [aup_n _ _ h1, if_pos (by omega)]
    by_cases h9 : j = sK a
    · have hx1 : hx (uDo a N') (sK a + 1) = N' := by
        unfold hx
        rw [if_neg (show ¬ sK a + 1 < sK (uDo a N') by show ¬ sK a + 1 < hPk (sK a); rw [e2]; omega)]
      show DRel (sT a) (upd (pDeed p) (sK a) dd j) (upd (pThing p) (sK a) t j) (upd (pDetail p) (sK a) e j) _ _
      rw [h9, pk_us, pk_us, pk_us, hxj _ (by omega), hx1]
      have : hx a (sK a) = sN a := by unfold hx; rw [if_neg (by omega)]
      rw [this]
      exact hd
    · show DRel (sT a) (upd (pDeed p) (sK a) dd j) (upd (pThing p) (sK a) t j) (upd (pDetail p) (sK a) e j) _ _
      rw [pk_un h9, pk_un h9, pk_un h9, hxj j (by omega), hxj (j + 1) (by omega)]
      exact h2 j (by omega)
theorem q_orc : ∀ a, a < 64 → ∀ p, p < 6 → a.testBit p = false → (a ||| 2 ^ p) &&& (63 ^^^ 2 ^ p) = a := by decide +kernel
theorem q_clo : ∀ a, a < 64 → ∀ p, p < 6 → a.testBit p = true → (a &&& (63 ^^^ 2 ^ p)) ||| 2 ^ p = a := by decide +kernel
theorem q_p64 : ∀ p, p < 6 → 2 ^ p < 64 := by decide
theorem q_clr_lt : ∀ n, n ≤ 6 → ∀ a, a < 64 → a < 2 ^ n → ∀ p, p < 6 → a &&& (63 ^^^ 2 ^ p) < 2 ^ n := by decide +kernel
theorem or_lt {n a p : Nat} (ha : a < 2 ^ n) (hp : p < n) : a ||| 2 ^ p < 2 ^ n := Nat.or_lt_two_pow ha (Nat.pow_lt_pow_right (by decide) hp)
def spComes (a : aS) (x : Int32) : Int32 × aS := bif inb x (aNp (sT a)) then (bif (nCo (sN a)).testBit x.toNatClampNeg then (-2, a) else (nI (pop (nCo (sN a) ||| 2 ^ x.toNatClampNeg)), uDo a (nCo (sN a) ||| 2 ^ x.toNatClampNeg, nYa (sN a), nCl (sN a)))) else (-1, a)
theorem c_comes (S : zS) (d : Nat) (sw : Bool) (c : cS) (hm : List zC) {a : aS} (hA : AWf a) (hR : CRel c a) (x : Int32) : ∃ c', Ex S (d + 3) 0 0 44 [.ref 0, .int x] (hC sw c, hm) (some (.int (spComes a x).1)) (hC sw c', hm) ∧ CRel c' (spComes a x).2 := by
  have hnp := hA.1.2.2.2.2.1
  have hst := c_hasOne S (d + 1) sw c hm hR.1.2.2.2.1 x
  have hco := nCo_lt hA.1 hA.2.1
  obtain ⟨hk10, -⟩ := hA.2.2.2.1
  have hkn := hR.2.2.2.1.1
  have hcm := hR.2.1.1
  unfold spComes
  cases hin : inb x (aNp (sT a)) with
  | false =>
    rw [hin] at hst
    refine ⟨c, ?_, hR⟩
    cases sw
    all_goals
      (refine exI rfl rfl ?_; intro X hX)
      repeat refine hX _ _ _ _ _ _ _ _ _ _ _ _ _ _ rfl ?_
      refine Or.inl ⟨_, _, hst, ?_⟩
      repeat refine hX _ _ _ _ _ _ _ _ _ _ _ _ _ _ rfl ?_
      refine br_f (show ¬ ¬ b2i false = 0 by decide) ?_
      repeat refine hX _ _ _ _ _ _ _ _ _ _ _ _ _ _ rfl ?_
      exact ⟨rfl, rfl⟩
  | true =>
    rw [hin] at hst
    obtain ⟨j, hj, rfl⟩ := inb_of hin (by omega)
    simp only [cond_true, nI_clamp (show j < 2 ^ 31 by omega)]
    have hhas := fun h => c_hasX S (d + 1) h hco (show j < 6 by omega)
    cases hb : (nCo (sN a)).testBit j with
    | true =>
      rw [hb] at hhas
      refine ⟨c, ?_, hR⟩
      cases sw
      all_goals
        (refine exI rfl rfl ?_; intro X hX)
        repeat refine hX _ _ _ _ _ _ _ _ _ _ _ _ _ _ rfl ?_
        refine Or.inl ⟨_, _, hst, ?_⟩
        repeat refine hX _ _ _ _ _ _ _ _ _ _ _ _ _ _ rfl ?_
        refine br_t (show ¬ b2i true = 0 by decide) ?_
        repeat refine hX _ _ _ _ _ _ _ _ _ _ _ _ _ _ rfl ?_
        rw [hcm]
        refine Or.inl ⟨_, _, hhas _, ?_⟩
        repeat refine hX _ _ _ _ _ _ _ _ _ _ _ _ _ _ rfl ?_
        refine br_f (show ¬ b2i true = 0 by decide) ?_
        repeat refine hX _ _ _ _ _ _ _ _ _ _ _ _ _ _ rfl ?_
        exact ⟨rfl, rfl⟩
    | false =>
      rw [hb] at hhas
      have hor : nI (nCo (sN a)) ||| (1 <<< (nI j &&& 31)) = nI (nCo (sN a) ||| 2 ^ j) := by rw [q_shl j (by omega), nI_or]
      have hl2 := q_or_lt _ hco _ (q_p64 j (by omega))
      have hadd := c_add S d sw (s_cSc c (s_nCome (cSc c) (nI (nCo (sN a) ||| 2 ^ j)))) hm hkn hk10 0 (nI j) 0
      have hbc := fun h => j_bcN S (d + 1) h hl2
      refine ⟨s_cPa (s_cSc c (s_nCome (cSc c) (nI (nCo (sN a) ||| 2 ^ j)))) (pAdd (cPa c) (sK a) 0 (nI j) 0), ?_, ⟨hR.1, ⟨rfl, hR.2.1.2⟩, hR.2.2.1, past_add hk10 hR.2.2.2.1 ⟨vp_in_nI (by omega) (by decide), fun n hn => ?_⟩, hR.2.2.2.2.1, hR.2.2.2.2.2.1, hR.2.2.2.2.2.2.1, hR.2.2.2.2.2.2.2.1, hR.2.2.2.2.2.2.2.2⟩⟩
      rotate_left
      · unfold tb
        rw [if_pos rfl]
        refine ⟨?_, hn.2⟩
        show nCome n &&& ((1 <<< (nI j &&& 31)) ^^^ (-1)) = nI (nCo (sN a))
        rw [show nCome n = nI (nCo (sN a) ||| 2 ^ j) from hn.1, q_shl j (by omega), q_andn _ hl2 _ (q_p64 j (by omega)), q_orc _ hco j (by omega) hb]
      · cases sw
        all_goals
          (refine exI rfl rfl ?_; intro X hX)
          repeat refine hX _ _ _ _ _ _ _ _ _ _ _ _ _ _ rfl ?_
          refine Or.inl ⟨_, _, hst, ?_⟩
          repeat refine hX _ _ _ _ _ _ _ _ _ _ _ _ _ _ rfl ?_
          refine br_t (show ¬ b2i true = 0 by decide) ?_
          repeat refine hX _ _ _ _ _ _ _ _ _ _ _ _ _ _ rfl ?_
          rw [hcm]
          refine Or.inl ⟨_, _, hhas _, ?_⟩
          repeat refine hX _ _ _ _ _ _ _ _ _ _ _ _ _ _ rfl ?_
          refine br_t (show b2i false = 0 from rfl) ?_
          repeat refine hX _ _ _ _ _ _ _ _ _ _ _ _ _ _ rfl ?_
          rw [hcm, hor]
          refine Or.inl ⟨_, _, hadd, ?_⟩
          repeat refine hX _ _ _ _ _ _ _ _ _ _ _ _ _ _ rfl ?_
          refine Or.inl ⟨_, _, hbc _, ?_⟩
          repeat refine hX _ _ _ _ _ _ _ _ _ _ _ _ _ _ rfl ?_
          exact ⟨rfl, rfl⟩
