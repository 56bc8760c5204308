theorem q_down : ∀ y, y < 10 → ∀ p, p < 11 → p ≤ y → nI y + nI p * (-1) = nI (y - p) := by decide +kernel
theorem q_down1 : ∀ y, y < 10 → nI y + nI (y + 1) * (-1) = -1 := by decide +kernel
theorem c_bareD (S : zS) (d : Nat) (sw : Bool) (c : cS) (hm : List zC) {A : aT} {N : aN} (hA : TWf A) (hT : TRel (cTo c) A) (hW : NWf A N) (hN : NRel A (cSc c) N) {y : Nat} (hy : y < aNy A) : Ex S (d + 5) 0 0 71 [.ref 0, .int (nI y), .int 0] (hC sw c, hm) (some (.int (aBrD A N (y + 1) 0))) (hC sw c, hm) := by
  have hns := hA.2.2.2.1
  have hny := hA.2.1
  have hsp : ∀ h, Ex S (d + 4) 0 0 85 [.int 0] h (some (.int (-1))) h := fun h => c_stepTo S (d + 3) h 0
  have hya := fun x => c_hasYard S (d + 3) sw c hm hT.1 x
  have hsn := fun x => c_statueIn S (d + 3) sw c hm hA hT hN x
  have hmo := fun j (hj : j < aNs A) => c_moves S d sw c hm hA hT hW hN hj
  have hYt := hT.1
  cases sw
  case false =>
    (refine exI rfl rfl ?_; intro X hX)
    have loop : ∀ (f p : Nat) (v4 v5 : Option Value), f + p = y + 1 → ((v4 = none ∧ v5 = none) ∨ ∃ z1 z2, v4 = some (.int z1) ∧ v5 = some (.int z2)) → aBrD A N f p = aBrD A N (y + 1) 0 → X 2 [some (.ref 0), some (.int (nI y)), some (.int 0), some (.int (nI p)), v4, v5] [] (hC false c, hm) 0 0 := by
      intro f
      induction f with
      | zero =>
        intro p v4 v5 hp hv he
        have hp : p = y + 1 := by omega
        subst hp
        have hf := hya (-1)
        rw [show inb (-1) (aNy A) = false from rfl] at hf
        rcases hv with ⟨rfl, rfl⟩ | ⟨z1, z2, rfl, rfl⟩
        all_goals
          repeat refine hX _ _ _ _ _ _ _ _ _ _ _ _ _ _ rfl ?_
          rw [hYt]
          by_cases h1 : y + 1 = aNy A
          · refine br_t (show nI (aNy A) ≤ nI (y + 1) from nI_le (by omega) (by omega)) ?_
            repeat refine hX _ _ _ _ _ _ _ _ _ _ _ _ _ _ rfl ?_
            exact ⟨by rw [← he]; rfl, rfl⟩
          · refine br_f (show ¬ nI (aNy A) ≤ nI (y + 1) from nI_ge (by omega) (by omega)) ?_
            repeat refine hX _ _ _ _ _ _ _ _ _ _ _ _ _ _ rfl ?_
            refine Or.inl ⟨_, _, hsp _, ?_⟩
            iterate 3 (refine hX _ _ _ _ _ _ _ _ _ _ _ _ _ _ rfl ?_)
            rw [q_down1 y (by omega)]
            repeat refine hX _ _ _ _ _ _ _ _ _ _ _ _ _ _ rfl ?_
            refine Or.inl ⟨_, _, hf, ?_⟩
            repeat refine hX _ _ _ _ _ _ _ _ _ _ _ _ _ _ rfl ?_
            refine br_f (show ¬ ¬ b2i false = 0 by decide) ?_
            repeat refine hX _ _ _ _ _ _ _ _ _ _ _ _ _ _ rfl ?_
            exact ⟨by rw [← he]; rfl, rfl⟩
      | succ f ih =>
        intro p v4 v5 hp hv he
        have hfy : y - p = f := by omega
        have hf := hya (nI f)
        rw [inb_nI (show f < aNy A by omega) (by omega)] at hf
        rw [aBrD] at he
        rcases hv with ⟨rfl, rfl⟩ | ⟨z1, z2, rfl, rfl⟩
        all_goals
          repeat refine hX _ _ _ _ _ _ _ _ _ _ _ _ _ _ rfl ?_
          rw [hYt]
          refine br_f (show ¬ nI (aNy A) ≤ nI p from nI_ge (by omega) (by omega)) ?_
          repeat refine hX _ _ _ _ _ _ _ _ _ _ _ _ _ _ rfl ?_
          refine Or.inl ⟨_, _, hsp _, ?_⟩
          iterate 3 (refine hX _ _ _ _ _ _ _ _ _ _ _ _ _ _ rfl ?_)
          rw [q_down y (by omega) p (by omega) (by omega), hfy]
          repeat refine hX _ _ _ _ _ _ _ _ _ _ _ _ _ _ rfl ?_
          refine Or.inl ⟨_, _, hf, ?_⟩
          repeat refine hX _ _ _ _ _ _ _ _ _ _ _ _ _ _ rfl ?_
          refine br_t (show ¬ b2i true = 0 by decide) ?_
          repeat refine hX _ _ _ _ _ _ _ _ _ _ _ _ _ _ rfl ?_
          refine Or.inl ⟨_, _, hsn _, ?_⟩
          repeat refine hX _ _ _ _ _ _ _ _ _ _ _ _ _ _ rfl ?_
          by_cases h9 : aSin A N (nI f) = -9
          · rw [if_pos h9] at he
            refine br_f (show ¬ ¬ aSin A N (nI f) = -9 from fun h => h h9) ?_
            repeat refine hX _ _ _ _ _ _ _ _ _ _ _ _ _ _ rfl ?_
            exact ⟨by rw [← he], rfl⟩
          · rw [if_neg h9] at he
            refine br_t (show ¬ aSin A N (nI f) = -9 from h9) ?_
            obtain ⟨j, hj, hsj⟩ := aSin_some hA h9
            have hmj := hmo j hj
            have hat : aMvAt A N f = aMov A N j := by unfold aMvAt; rw [hsj, nI_clamp (by omega)]
            rw [hat] at he
            have h7 := ih (p + 1) (some (.int (nI f))) (some (.int (aSin A N (nI f)))) (by omega) (Or.inr ⟨_, _, rfl, rfl⟩)
            rw [hsj] at h7 ⊢
            repeat refine hX _ _ _ _ _ _ _ _ _ _ _ _ _ _ rfl ?_
            refine Or.inl ⟨_, _, hmj, ?_⟩
            repeat refine hX _ _ _ _ _ _ _ _ _ _ _ _ _ _ rfl ?_
            cases hb : aMov A N j with
            | false =>
              rw [hb] at he
              refine br_f (show ¬ ¬ b2i false = 0 by decide) ?_
              repeat refine hX _ _ _ _ _ _ _ _ _ _ _ _ _ _ rfl ?_
              exact ⟨by rw [← he]; rfl, rfl⟩
            | true =>
              rw [hb] at he
              refine br_t (show ¬ b2i true = 0 by decide) ?_
              iterate 2 (refine hX _ _ _ _ _ _ _ _ _ _ _ _ _ _ rfl ?_)
              rw [nI_1]
              exact h7 he
    iterate 2 (refine hX _ _ _ _ _ _ _ _ _ _ _ _ _ _ rfl ?_)
    exact loop (y + 1) 0 none none (by omega) (Or.inl ⟨rfl, rfl⟩) rfl
  case true =>
    (refine exI rfl rfl ?_; intro X hX)
    have loop : ∀ (f p : Nat) (v4 v5 : Option Value), f + p = y + 1 → ((v4 = none ∧ v5 = none) ∨ ∃ z1 z2, v4 = some (.int z1) ∧ v5 = some (.int z2)) → aBrD A N f p = aBrD A N (y + 1) 0 → X 2 [some (.ref 0), some (.int (nI y)), some (.int 0), some (.int (nI p)), v4, v5] [] (hC true c, hm) 0 0 := by
      intro f
      induction f with
      | zero =>
        intro p v4 v5 hp hv he
        have hp : p = y + 1 := by omega
        subst hp
        have hf := hya (-1)
        rw [show inb (-1) (aNy A) = false from rfl] at hf
        rcases hv with ⟨rfl, rfl⟩ | ⟨z1, z2, rfl, rfl⟩
        all_goals
          repeat refine hX _ _ _ _ _ _ _ _ _ _ _ _ _ _ rfl ?_
          rw [hYt]
          by_cases h1 : y + 1 = aNy A
          · refine br_t (show nI (aNy A) ≤ nI (y + 1) from nI_le (by omega) (by omega)) ?_
            repeat refine hX _ _ _ _ _ _ _ _ _ _ _ _ _ _ rfl ?_
            exact ⟨by rw [← he]; rfl, rfl⟩
          · refine br_f (show ¬ nI (aNy A) ≤ nI (y + 1) from nI_ge (by omega) (by omega)) ?_
            repeat refine hX _ _ _ _ _ _ _ _ _ _ _ _ _ _ rfl ?_
            refine Or.inl ⟨_, _, hsp _, ?_⟩
            iterate 3 (refine hX _ _ _ _ _ _ _ _ _ _ _ _ _ _ rfl ?_)
            rw [q_down1 y (by omega)]
            repeat refine hX _ _ _ _ _ _ _ _ _ _ _ _ _ _ rfl ?_
            refine Or.inl ⟨_, _, hf, ?_⟩
            repeat refine hX _ _ _ _ _ _ _ _ _ _ _ _ _ _ rfl ?_
            refine br_f (show ¬ ¬ b2i false = 0 by decide) ?_
            repeat refine hX _ _ _ _ _ _ _ _ _ _ _ _ _ _ rfl ?_
            exact ⟨by rw [← he]; rfl, rfl⟩
      | succ f ih =>
        intro p v4 v5 hp hv he
        have hfy : y - p = f := by omega
        have hf := hya (nI f)
        rw [inb_nI (show f < aNy A by omega) (by omega)] at hf
        rw [aBrD] at he
        rcases hv with ⟨rfl, rfl⟩ | ⟨z1, z2, rfl, rfl⟩
        all_goals
          repeat refine hX _ _ _ _ _ _ _ _ _ _ _ _ _ _ rfl ?_
          rw [hYt]
          refine br_f (show ¬ nI (aNy A) ≤ nI p from nI_ge (by omega) (by omega)) ?_
          repeat refine hX _ _ _ _ _ _ _ _ _ _ _ _ _ _ rfl ?_
          refine Or.inl ⟨_, _, hsp _, ?_⟩
          iterate 3 (refine hX _ _ _ _ _ _ _ _ _ _ _ _ _ _ rfl ?_)
          rw [q_down y (by omega) p (by omega) (by omega), hfy]
          repeat refine hX _ _ _ _ _ _ _ _ _ _ _ _ _ _ rfl ?_
          refine Or.inl ⟨_, _, hf, ?_⟩
          repeat refine hX _ _ _ _ _ _ _ _ _ _ _ _ _ _ rfl ?_
          refine br_t (show ¬ b2i true = 0 by decide) ?_
          repeat refine hX _ _ _ _ _ _ _ _ _ _ _ _ _ _ rfl ?_
          refine Or.inl ⟨_, _, hsn _, ?_⟩
          repeat refine hX _ _ _ _ _ _ _ _ _ _ _ _ _ _ rfl ?_
          by_cases h9 : aSin A N (nI f) = -9
          · rw [if_pos h9] at he
            refine br_f (show ¬ ¬ aSin A N (nI f) = -9 from fun h => h h9) ?_
            repeat refine hX _ _ _ _ _ _ _ _ _ _ _ _ _ _ rfl ?_
            exact ⟨by rw [← he], rfl⟩
          · rw [if_neg h9] at he
            refine br_t (show ¬ aSin A N (nI f) = -9 from h9) ?_
            obtain ⟨j, hj, hsj⟩ := aSin_some hA h9
            have hmj := hmo j hj
            have hat : aMvAt A N f = aMov A N j := by unfold aMvAt; rw [hsj, nI_clamp (by omega)]
            rw [hat] at he
            have h7 := ih (p + 1) (some (.int (nI f))) (some (.int (aSin A N (nI f)))) (by omega) (Or.inr ⟨_, _, rfl, rfl⟩)
            rw [hsj] at h7 ⊢
            repeat refine hX _ _ _ _ _ _ _ _ _ _ _ _ _ _ rfl ?_
            refine Or.inl ⟨_, _, hmj, ?_⟩
            repeat refine hX _ _ _ _ _ _ _ _ _ _ _ _ _ _ rfl ?_
            cases hb : aMov A N j with
            | false =>
              rw [hb] at he
              refine br_f (show ¬ ¬ b2i false = 0 by decide) ?_
              repeat refine hX _ _ _ _ _ _ _ _ _ _ _ _ _ _ rfl ?_
              exact ⟨by rw [← he]; rfl, rfl⟩
            | true =>
              rw [hb] at he
              refine br_t (show ¬ b2i true = 0 by decide) ?_
              iterate 2 (refine hX _ _ _ _ _ _ _ _ _ _ _ _ _ _ rfl ?_)
              rw [nI_1]
              exact h7 he
    iterate 2 (refine hX _ _ _ _ _ _ _ _ _ _ _ _ _ _ rfl ?_)
    exact loop (y + 1) 0 none none (by omega) (Or.inl ⟨rfl, rfl⟩) rfl
/-- of both sides the fewer; 0: how many, 1: the side -/
def aUp (dn up : Int32) : Bool := decide (¬ up = -9 ∧ (dn = -9 ∨ up < dn))
def aBare (dn up w : Int32) : Int32 := if w = 0 then (bif aUp dn up then up else dn) else (if (bif aUp dn up then up else dn) = -9 ∨ (bif aUp dn up then up else dn) = 0 then -9 else b2i (aUp dn up))
def spBare (A : aT) (N : aN) (y w : Int32) : Int32 := bif inb y (aNy A) && inb w 2 then aBare (aBrD A N (y.toNatClampNeg + 1) 0) (aBrU A N (aNy A - y.toNatClampNeg) 0 y.toNatClampNeg) w else -1
theorem c_bare (S : zS) (d : Nat) (sw : Bool) (c : cS) (hm : List zC) {A : aT} {N : aN} (hA : TWf A) (hT : TRel (cTo c) A) (hW : NWf A N) (hN : NRel A (cSc c) N) (y w : Int32) : Ex S (d + 6) 0 0 50 [.ref 0, .int y, .int w] (hC sw c, hm) (some (.int (spBare A N y w))) (hC sw c, hm) := by
  have hny := hA.2.1
  have hya := c_hasYard S (d + 4) sw c hm hT.1 y
  unfold spBare
  cases hin : inb y (aNy A) with
  | false =>
    rw [hin] at hya
    cases sw
    all_goals
      (refine exI rfl rfl ?_; intro X hX)
      repeat refine hX _ _ _ _ _ _ _ _ _ _ _ _ _ _ rfl ?_
      refine Or.inl ⟨_, _, hya, ?_⟩
      repeat refine hX _ _ _ _ _ _ _ _ _ _ _ _ _ _ rfl ?_
      refine br_t (show b2i false = 0 from rfl) ?_
      repeat refine hX _ _ _ _ _ _ _ _ _ _ _ _ _ _ rfl ?_
      exact ⟨rfl, rfl⟩
  | true =>
    rw [hin] at hya
    obtain ⟨j, hj, rfl⟩ := inb_of hin (by omega)
    cases hiw : inb w 2 with
    | false =>
      have hno := inb_no hiw
      cases sw
      all_goals
        (refine exI rfl rfl ?_; intro X hX)
        repeat refine hX _ _ _ _ _ _ _ _ _ _ _ _ _ _ rfl ?_
        refine Or.inl ⟨_, _, hya, ?_⟩
        repeat refine hX _ _ _ _ _ _ _ _ _ _ _ _ _ _ rfl ?_
        refine br_f (show ¬ b2i true = 0 by decide) ?_
        repeat refine hX _ _ _ _ _ _ _ _ _ _ _ _ _ _ rfl ?_
        rcases hno with h0 | ⟨h0, h1⟩
        · refine br_t (show w < 0 from h0) ?_
          repeat refine hX _ _ _ _ _ _ _ _ _ _ _ _ _ _ rfl ?_
          exact ⟨rfl, rfl⟩
        · refine br_f (show ¬ w < 0 from h0) ?_
          repeat refine hX _ _ _ _ _ _ _ _ _ _ _ _ _ _ rfl ?_
          refine br_f (show ¬ w ≤ nI 1 from le_no (by decide) h1) ?_
          repeat refine hX _ _ _ _ _ _ _ _ _ _ _ _ _ _ rfl ?_
          exact ⟨rfl, rfl⟩
    | true =>
      obtain ⟨z, hz, rfl⟩ := inb_of hiw (by decide)
      simp only [cond_true, Bool.and_self, nI_clamp (show j < 2 ^ 31 by omega)]
      have hD := c_bareD S d sw c hm hA hT hW hN hj
      have hU := c_bareU S d sw c hm hA hT hW hN hj
      generalize aBrD A N (j + 1) 0 = dn at hD ⊢
      generalize aBrU A N (aNy A - j) 0 j = up at hU ⊢
      cases sw
      case false =>
        (refine exI rfl rfl ?_; intro X hX)
        have fin : ∀ (u : Bool) (v : Int32), u = aUp dn up → v = (bif aUp dn up then up else dn) → X 77 [some (.ref 0), some (.int (nI j)), some (.int (nI z)), some (.int dn), some (.int up), some (.int (b2i u)), some (.int v)] [] (hC false c, hm) 0 0 := by
          intro u v hu hv
          repeat refine hX _ _ _ _ _ _ _ _ _ _ _ _ _ _ rfl ?_
          by_cases h0 : nI z = 0
          · refine br_f (show ¬ ¬ nI z = 0 from fun h => h h0) ?_
            repeat refine hX _ _ _ _ _ _ _ _ _ _ _ _ _ _ rfl ?_
            exact ⟨by rw [aBare, if_pos h0, hv], rfl⟩
          · refine br_t (show ¬ nI z = 0 from h0) ?_
            repeat refine hX _ _ _ _ _ _ _ _ _ _ _ _ _ _ rfl ?_
            by_cases h9 : v = -9
            · refine br_t (show v = -9 from h9) ?_
              repeat refine hX _ _ _ _ _ _ _ _ _ _ _ _ _ _ rfl ?_
              exact ⟨by rw [aBare, if_neg h0, ← hv, if_pos (Or.inl h9)], rfl⟩
            · refine br_f (show ¬ v = -9 from h9) ?_
              repeat refine hX _ _ _ _ _ _ _ _ _ _ _ _ _ _ rfl ?_
              by_cases hz0 : v = 0
              · refine br_f (show ¬ ¬ v = 0 from fun h => h hz0) ?_
                repeat refine hX _ _ _ _ _ _ _ _ _ _ _ _ _ _ rfl ?_
                exact ⟨by rw [aBare, if_neg h0, ← hv, if_pos (Or.inr hz0)], rfl⟩
              · refine br_t (show ¬ v = 0 from hz0) ?_
                repeat refine hX _ _ _ _ _ _ _ _ _ _ _ _ _ _ rfl ?_
                exact ⟨by rw [aBare, if_neg h0, ← hv, if_neg (fun h => h.elim h9 hz0), hu], rfl⟩
        have mid : ∀ u : Bool, u = aUp dn up → X 63 [some (.ref 0), some (.int (nI j)), some (.int (nI z)), some (.int dn), some (.int up), some (.int (b2i u)), none] [] (hC false c, hm) 0 0 := by
          intro u hu
          repeat refine hX _ _ _ _ _ _ _ _ _ _ _ _ _ _ rfl ?_
          cases u with
          | false =>
            refine br_t (show ¬ b2i false = 1 by decide) ?_
            iterate 2 (refine hX _ _ _ _ _ _ _ _ _ _ _ _ _ _ rfl ?_)
            exact fin false dn hu (by rw [← hu]; rfl)
          | true =>
            refine br_f (show ¬ ¬ b2i true = 1 by decide) ?_
            iterate 3 (refine hX _ _ _ _ _ _ _ _ _ _ _ _ _ _ rfl ?_)
            exact fin true up hu (by rw [← hu]; rfl)
        repeat refine hX _ _ _ _ _ _ _ _ _ _ _ _ _ _ rfl ?_
        refine Or.inl ⟨_, _, hya, ?_⟩
        repeat refine hX _ _ _ _ _ _ _ _ _ _ _ _ _ _ rfl ?_
        refine br_f (show ¬ b2i true = 0 by decide) ?_
        repeat refine hX _ _ _ _ _ _ _ _ _ _ _ _ _ _ rfl ?_
        refine br_f (show ¬ nI z < 0 from nI_pos (by omega)) ?_
        repeat refine hX _ _ _ _ _ _ _ _ _ _ _ _ _ _ rfl ?_
        refine br_t (show nI z ≤ nI 1 from nI_le (by omega) (by decide)) ?_
        repeat refine hX _ _ _ _ _ _ _ _ _ _ _ _ _ _ rfl ?_
        refine Or.inl ⟨_, _, hD, ?_⟩
        repeat refine hX _ _ _ _ _ _ _ _ _ _ _ _ _ _ rfl ?_
        refine Or.inl ⟨_, _, hU, ?_⟩
        repeat refine hX _ _ _ _ _ _ _ _ _ _ _ _ _ _ rfl ?_
        by_cases h9 : up = -9
        · refine br_t (show up = -9 from h9) ?_
          iterate 2 (refine hX _ _ _ _ _ _ _ _ _ _ _ _ _ _ rfl ?_)
          exact mid false (by rw [aUp, decide_eq_false (fun h => h.1 h9)])
        · refine br_f (show ¬ up = -9 from h9) ?_
          repeat refine hX _ _ _ _ _ _ _ _ _ _ _ _ _ _ rfl ?_
          by_cases h8 : dn = -9
          · refine br_t (show dn = -9 from h8) ?_
            iterate 3 (refine hX _ _ _ _ _ _ _ _ _ _ _ _ _ _ rfl ?_)
            exact mid true (by rw [aUp, decide_eq_true ⟨h9, Or.inl h8⟩])
          · refine br_f (show ¬ dn = -9 from h8) ?_
            repeat refine hX _ _ _ _ _ _ _ _ _ _ _ _ _ _ rfl ?_
            by_cases hlt : up < dn
            · refine br_f (show ¬ dn ≤ up from Int32.not_le.mpr hlt) ?_
              iterate 3 (refine hX _ _ _ _ _ _ _ _ _ _ _ _ _ _ rfl ?_)
              exact mid true (by rw [aUp, decide_eq_true ⟨h9, Or.inr hlt⟩])
            · refine br_t (show dn ≤ up from Int32.not_lt.mp hlt) ?_
              iterate 2 (refine hX _ _ _ _ _ _ _ _ _ _ _ _ _ _ rfl ?_)
              exact mid false (by rw [aUp, decide_eq_false (fun h => h.2.elim h8 hlt)])
      case true =>
        (refine exI rfl rfl ?_; intro X hX)
        have fin : ∀ (u : Bool) (v : Int32), u = aUp dn up → v = (bif aUp dn up then up else dn) → X 77 [some (.ref 0), some (.int (nI j)), some (.int (nI z)), some (.int dn), some (.int up), some (.int (b2i u)), some (.int v)] [] (hC true c, hm) 0 0 := by
          intro u v hu hv
          repeat refine hX _ _ _ _ _ _ _ _ _ _ _ _ _ _ rfl ?_
          by_cases h0 : nI z = 0
          · refine br_f (show ¬ ¬ nI z = 0 from fun h => h h0) ?_
            repeat refine hX _ _ _ _ _ _ _ _ _ _ _ _ _ _ rfl ?_
            exact ⟨by rw [aBare, if_pos h0, hv], rfl⟩
          · refine br_t (show ¬ nI z = 0 from h0) ?_
            repeat refine hX _ _ _ _ _ _ _ _ _ _ _ _ _ _ rfl ?_
            by_cases h9 : v = -9
            · refine br_t (show v = -9 from h9) ?_
              repeat refine hX _ _ _ _ _ _ _ _ _ _ _ _ _ _ rfl ?_
              exact ⟨by rw [aBare, if_neg h0, ← hv, if_pos (Or.inl h9)], rfl⟩
            · refine br_f (show ¬ v = -9 from h9) ?_
              repeat refine hX _ _ _ _ _ _ _ _ _ _ _ _ _ _ rfl ?_
              by_cases hz0 : v = 0
              · refine br_f (show ¬ ¬ v = 0 from fun h => h hz0) ?_
                repeat refine hX _ _ _ _ _ _ _ _ _ _ _ _ _ _ rfl ?_
                exact ⟨by rw [aBare, if_neg h0, ← hv, if_pos (Or.inr hz0)], rfl⟩
              · refine br_t (show ¬ v = 0 from hz0) ?_
                repeat refine hX _ _ _ _ _ _ _ _ _ _ _ _ _ _ rfl ?_
                exact ⟨by rw [aBare, if_neg h0, ← hv, if_neg (fun h => h.elim h9 hz0), hu], rfl⟩
        have mid : ∀ u : Bool, u = aUp dn up → X 63 [some (.ref 0), some (.int (nI j)), some (.int (nI z)), some (.int dn), some (.int up), some (.int (b2i u)), none] [] (hC true c, hm) 0 0 := by
          intro u hu
          repeat refine hX _ _ _ _ _ _ _ _ _ _ _ _ _ _ rfl ?_
          cases u with
          | false =>
            refine br_t (show ¬ b2i false = 1 by decide) ?_
            iterate 2 (refine hX _ _ _ _ _ _ _ _ _ _ _ _ _ _ rfl ?_)
            exact fin false dn hu (by rw [← hu]; rfl)
          | true =>
            refine br_f (show ¬ ¬ b2i true = 1 by decide) ?_
            iterate 3 (refine hX _ _ _ _ _ _ _ _ _ _ _ _ _ _ rfl ?_)
            exact fin true up hu (by rw [← hu]; rfl)
        repeat refine hX _ _ _ _ _ _ _ _ _ _ _ _ _ _ rfl ?_
        refine Or.inl ⟨_, _, hya, ?_⟩
        repeat refine hX _ _ _ _ _ _ _ _ _ _ _ _ _ _ rfl ?_
        refine br_f (show ¬ b2i true = 0 by decide) ?_
        repeat refine hX _ _ _ _ _ _ _ _ _ _ _ _ _ _ rfl ?_
        refine br_f (show ¬ nI z < 0 from nI_pos (by omega)) ?_
        repeat refine hX _ _ _ _ _ _ _ _ _ _ _ _ _ _ rfl ?_
        refine br_t (show nI z ≤ nI 1 from nI_le (by omega) (by decide)) ?_
        repeat refine hX _ _ _ _ _ _ _ _ _ _ _ _ _ _ rfl ?_
        refine Or.inl ⟨_, _, hD, ?_⟩
        repeat refine hX _ _ _ _ _ _ _ _ _ _ _ _ _ _ rfl ?_
        refine Or.inl ⟨_, _, hU, ?_⟩
        repeat refine hX _ _ _ _ _ _ _ _ _ _ _ _ _ _ rfl ?_
        by_cases h9 : up = -9
        · refine br_t (show up = -9 from h9) ?_
          iterate 2 (refine hX _ _ _ _ _ _ _ _ _ _ _ _ _ _ rfl ?_)
          exact mid false (by rw [aUp, decide_eq_false (fun h => h.1 h9)])
        · refine br_f (show ¬ up = -9 from h9) ?_
          repeat refine hX _ _ _ _ _ _ _ _ _ _ _ _ _ _ rfl ?_
          by_cases h8 : dn = -9
          · refine br_t (show dn = -9 from h8) ?_
            iterate 3 (refine hX _ _ _ _ _ _ _ _ _ _ _ _ _ _ rfl ?_)
            exact mid true (by rw [aUp, decide_eq_true ⟨h9, Or.inl h8⟩])
          · refine br_f (show ¬ dn = -9 from h8) ?_
            repeat refine hX _ _ _ _ _ _ _ _ _ _ _ _ _ _ rfl ?_
            by_cases hlt : up < dn
            · refine br_f (show ¬ dn ≤ up from Int32.not_le.mpr hlt) ?_
              iterate 3 (refine hX _ _ _ _ _ _ _ _ _ _ _ _ _ _ rfl ?_)
              exact mid true (by rw [aUp, decide_eq_true ⟨h9, Or.inr hlt⟩])
            · refine br_t (show dn ≤ up from Int32.not_lt.mp hlt) ?_
              iterate 2 (refine hX _ _ _ _ _ _ _ _ _ _ _ _ _ _ rfl ?_)
              exact mid false (by rw [aUp, decide_eq_false (fun h => h.2.elim h8 hlt)])
/-! ===== the class: orders, odds ===== -/
def aSub (a b : Nat) : Bool := decide (a &&& (63 ^^^ b) = 0)
theorem c_isWithin (S : zS) (d : Nat) (h : zH) {a b : Nat} (ha : a < 64) (hb : b < 64) : Ex S (d + 1) 0 0 83 [.int (nI a), .int (nI b)] h (some (.int (b2i (aSub a b)))) h := by
  have hl : a &&& (63 ^^^ b) < 64 := q_and_lt ha
  (refine exI rfl rfl ?_; intro X hX)
  repeat refine hX _ _ _ _ _ _ _ _ _ _ _ _ _ _ rfl ?_
  rw [q_andn a ha b hb]
  by_cases h0 : a &&& (63 ^^^ b) = 0
  · refine br_f (show ¬ ¬ nI (a &&& (63 ^^^ b)) = 0 from fun h => h (congrArg nI h0)) ?_
    repeat refine hX _ _ _ _ _ _ _ _ _ _ _ _ _ _ rfl ?_
    exact ⟨Or.inr rfl, by rw [aSub, decide_eq_true h0]; rfl, rfl⟩
  · refine br_t (show ¬ nI (a &&& (63 ^^^ b)) = 0 from nI_ne0 (by omega) (by omega)) ?_
    repeat refine hX _ _ _ _ _ _ _ _ _ _ _ _ _ _ rfl ?_
    exact ⟨Or.inl rfl, by rw [aSub, decide_eq_false h0]; rfl, rfl⟩
def fac : Nat → Nat
  | 0 => 1
  | n + 1 => (n + 1) * fac n
theorem q_fac : ∀ n, n < 7 → z_fac n = nI (fac n) := by decide +kernel
theorem c_ordersOf (S : zS) (d : Nat) (h : zH) {a : Nat} (ha : a < 64) : Ex S (d + 2) 0 0 87 [.int (nI a)] h (some (.int (nI (fac (pop a))))) h := by
  have hbc := j_bcN S d h ha
  have hp := pop_le a
  (refine exI rfl rfl ?_; intro X hX)
  repeat refine hX _ _ _ _ _ _ _ _ _ _ _ _ _ _ rfl ?_
  refine Or.inl ⟨_, _, hbc, ?_⟩
  repeat refine hX _ _ _ _ _ _ _ _ _ _ _ _ _ _ rfl ?_
  refine br_f (show ¬ nI 7 ≤ nI (pop a) from nI_ge (by omega) (by decide)) ?_
  repeat refine hX _ _ _ _ _ _ _ _ _ _ _ _ _ _ rfl ?_
  refine ⟨vp_in_nI (by omega) (by decide), ?_⟩
  rw [nI_clamp (by omega)]
  rw [q_fac (pop a) (by omega)]
  repeat refine hX _ _ _ _ _ _ _ _ _ _ _ _ _ _ rfl ?_
  exact ⟨rfl, rfl⟩
def aSumN (f : Nat → Nat) : Nat → Nat
  | 0 => 0
  | n + 1 => aSumN f n + f n
def aScT (A : aT) (oth p j : Nat) (ah : Nat) : Nat := bif aSub ah oth && (decide (aStr A ah < aWe A j) && decide (aWe A j ≤ aStr A ah + aSt A p)) then fac (pop ah) * fac (pop (oth &&& (63 ^^^ ah))) else 0
def spScale (A : aT) (N : aN) (x y : Int32) : Int32 := bif inb x (aNp A) && inb y (aNs A) then (bif (aWr A N y.toNatClampNeg &&& nCo N).testBit x.toNatClampNeg then nI (aSumN (aScT A ((aWr A N y.toNatClampNeg &&& nCo N) &&& (63 ^^^ 2 ^ x.toNatClampNeg)) x.toNatClampNeg y.toNatClampNeg) (2 ^ aNp A)) else 0) else -1
theorem q_miss1 : ∀ w, w < 31 → ∀ s, s < 55 → decide (nI w - nI s ≤ 0) = !decide (s < w) := by decide +kernel
theorem q_miss2 : ∀ w, w < 31 → ∀ s, s < 55 → ∀ t, t < 10 → decide (nI t < nI w - nI s) = !decide (w ≤ s + t) := by decide +kernel
