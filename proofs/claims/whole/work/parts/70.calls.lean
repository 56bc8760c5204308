/-! ===== the law: a call on each, the same answer ===== -/
theorem r_type {L : Nat} {xs : Nat → Int32} (hL : L ≤ 2048) {X : zX} {k n : Nat} (hX : z_cl (L, xs) (Ex (L, xs) 9) tL_law true 600000 7302250 (fun v _ => v = some (.int 1)) X) {i : Nat} (hi : i + 4 ≤ L) {sw : Bool} {c : cS} {m : mS} {a : aS} (hA : AWf a) (hR : CRel c a) (hMR : MRel m a) (H : ∀ sw' c' m' a', AWf a' → CRel c' a' → MRel m' a' → X 764 [some (.ref 2001), some (.ref 0), some (.ref 1000), some (.int (nI i))] [] (hC sw' c', hM m') k n) : X 148 [some (.ref 2001), some (.ref 0), some (.ref 1000), some (.int (nI i))] [] (hC sw c, hM m) k n := by
  obtain ⟨c', hx, hR'⟩ := c_type (L, xs) 7 sw c (hM m) hA hR (xs (i + 1))
  obtain ⟨m', hy, hM'⟩ := m_type (L, xs) 7 (hC sw c') m hA hMR (xs (i + 1))
  have hx : Ex (L, xs) 9 0 0 37 [.ref 0, .int (xs (i + 1))] (hC sw c, hM m) (some (.int ((spType a (xs (i + 1))).1))) (hC sw c', hM m) := hx
  have hy : Ex (L, xs) 9 0 0 94 [.ref 1000, .int (xs (i + 1))] (hC sw c', hM m) (some (.int ((spType a (xs (i + 1))).1))) (hC sw c', hM m') := hy
  have h9 := H sw c' m' _ (wf_type hA (xs (i + 1))) hR' hM'
  clear H
  cases sw
  all_goals
    repeat refine hX _ _ _ _ _ _ _ _ _ _ _ _ _ _ rfl ?_
    rw [show nI i + 1 = nI (i + 1) from nI_add i 1]
    refine ⟨vp_in_nI (by omega) (by omega), ?_⟩
    rw [nI_clamp (by omega)]
    repeat refine hX _ _ _ _ _ _ _ _ _ _ _ _ _ _ rfl ?_
    refine Or.inl ⟨_, _, hx, ?_⟩
    repeat refine hX _ _ _ _ _ _ _ _ _ _ _ _ _ _ rfl ?_
    rw [show nI i + 1 = nI (i + 1) from nI_add i 1]
    refine ⟨vp_in_nI (by omega) (by omega), ?_⟩
    rw [nI_clamp (by omega)]
    repeat refine hX _ _ _ _ _ _ _ _ _ _ _ _ _ _ rfl ?_
    refine Or.inl ⟨_, _, hy, ?_⟩
    repeat refine hX _ _ _ _ _ _ _ _ _ _ _ _ _ _ rfl ?_
    refine br_t (show (spType a (xs (i + 1))).1 = (spType a (xs (i + 1))).1 from rfl) ?_
    exact h9
theorem r_clear {L : Nat} {xs : Nat → Int32} (hL : L ≤ 2048) {X : zX} {k n : Nat} (hX : z_cl (L, xs) (Ex (L, xs) 9) tL_law true 600000 7302250 (fun v _ => v = some (.int 1)) X) {i : Nat} (hi : i + 4 ≤ L) {sw : Bool} {c : cS} {m : mS} {a : aS} (hA : AWf a) (hR : CRel c a) (hMR : MRel m a) (H : ∀ sw' c' m' a', AWf a' → CRel c' a' → MRel m' a' → X 764 [some (.ref 2001), some (.ref 0), some (.ref 1000), some (.int (nI i))] [] (hC sw' c', hM m') k n) : X 171 [some (.ref 2001), some (.ref 0), some (.ref 1000), some (.int (nI i))] [] (hC sw c, hM m) k n := by
  obtain ⟨c', hx, hR'⟩ := c_clear (L, xs) 8 sw c (hM m) hR 
  obtain ⟨m', hy, hM'⟩ := m_clear (L, xs) 8 (hC sw c') m hMR 
  have hx : Ex (L, xs) 9 0 0 38 [.ref 0] (hC sw c, hM m) (some (.int ((spClear a ).1))) (hC sw c', hM m) := hx
  have hy : Ex (L, xs) 9 0 0 95 [.ref 1000] (hC sw c', hM m) (some (.int ((spClear a ).1))) (hC sw c', hM m') := hy
  have h9 := H sw c' m' _ (wf_clear hA ) hR' hM'
  clear H
  cases sw
  all_goals
    repeat refine hX _ _ _ _ _ _ _ _ _ _ _ _ _ _ rfl ?_
    refine Or.inl ⟨_, _, hx, ?_⟩
    repeat refine hX _ _ _ _ _ _ _ _ _ _ _ _ _ _ rfl ?_
    refine Or.inl ⟨_, _, hy, ?_⟩
    repeat refine hX _ _ _ _ _ _ _ _ _ _ _ _ _ _ rfl ?_
    refine br_t (show (spClear a ).1 = (spClear a ).1 from rfl) ?_
    exact h9
theorem r_town {L : Nat} {xs : Nat → Int32} (hL : L ≤ 2048) {X : zX} {k n : Nat} (hX : z_cl (L, xs) (Ex (L, xs) 9) tL_law true 600000 7302250 (fun v _ => v = some (.int 1)) X) {i : Nat} (hi : i + 4 ≤ L) {sw : Bool} {c : cS} {m : mS} {a : aS} (hA : AWf a) (hR : CRel c a) (hMR : MRel m a) (H : ∀ sw' c' m' a', AWf a' → CRel c' a' → MRel m' a' → X 764 [some (.ref 2001), some (.ref 0), some (.ref 1000), some (.int (nI i))] [] (hC sw' c', hM m') k n) : X 184 [some (.ref 2001), some (.ref 0), some (.ref 1000), some (.int (nI i))] [] (hC sw c, hM m) k n := by
  obtain ⟨sw', c', hx, hR'⟩ := c_town (L, xs) 2 sw c (hM m) hA hR
  obtain ⟨m', hy, hM'⟩ := m_town (L, xs) 1 (hC sw' c') m hA hMR
  have hx : Ex (L, xs) 9 0 0 39 [.ref 0] (hC sw c, hM m) (some (.int ((spTown a ).1))) (hC sw' c', hM m) := hx
  have hy : Ex (L, xs) 9 0 0 107 [.ref 1000] (hC sw' c', hM m) (some (.int ((spTown a ).1))) (hC sw' c', hM m') := hy
  have h9 := H sw' c' m' _ (wf_town hA ) hR' hM'
  clear H
  cases sw
  all_goals
    repeat refine hX _ _ _ _ _ _ _ _ _ _ _ _ _ _ rfl ?_
    refine Or.inl ⟨_, _, hx, ?_⟩
    repeat refine hX _ _ _ _ _ _ _ _ _ _ _ _ _ _ rfl ?_
    refine Or.inl ⟨_, _, hy, ?_⟩
    repeat refine hX _ _ _ _ _ _ _ _ _ _ _ _ _ _ rfl ?_
    refine br_t (show (spTown a ).1 = (spTown a ).1 from rfl) ?_
    exact h9
theorem r_statue {L : Nat} {xs : Nat → Int32} (hL : L ≤ 2048) {X : zX} {k n : Nat} (hX : z_cl (L, xs) (Ex (L, xs) 9) tL_law true 600000 7302250 (fun v _ => v = some (.int 1)) X) {i : Nat} (hi : i + 4 ≤ L) {sw : Bool} {c : cS} {m : mS} {a : aS} (hA : AWf a) (hR : CRel c a) (hMR : MRel m a) (H : ∀ sw' c' m' a', AWf a' → CRel c' a' → MRel m' a' → X 764 [some (.ref 2001), some (.ref 0), some (.ref 1000), some (.int (nI i))] [] (hC sw' c', hM m') k n) : X 197 [some (.ref 2001), some (.ref 0), some (.ref 1000), some (.int (nI i))] [] (hC sw c, hM m) k n := by
  have hx := c_statue (L, xs) 5 sw c (hM m) hA.1 hR.1 hA.2.1 hR.2.1 (xs (i + 1)) (xs (i + 2))
  have hy := m_statue (L, xs) 3 (hC sw c) m hA.1 hMR.1 hA.2.1 hMR.2.1 (xs (i + 1)) (xs (i + 2))
  have hx : Ex (L, xs) 9 0 0 41 [.ref 0, .int (xs (i + 1)), .int (xs (i + 2))] (hC sw c, hM m) (some (.int (spStatue (sT a) (sN a) (xs (i + 1)) (xs (i + 2))))) (hC sw c, hM m) := hx
  have hy : Ex (L, xs) 9 0 0 119 [.ref 1000, .int (xs (i + 1)), .int (xs (i + 2))] (hC sw c, hM m) (some (.int (spStatue (sT a) (sN a) (xs (i + 1)) (xs (i + 2))))) (hC sw c, hM m) := hy
  have h9 := H sw c m a hA hR hMR
  clear H
  cases sw
  all_goals
    repeat refine hX _ _ _ _ _ _ _ _ _ _ _ _ _ _ rfl ?_
    rw [show nI i + 1 = nI (i + 1) from nI_add i 1]
    refine ⟨vp_in_nI (by omega) (by omega), ?_⟩
    rw [nI_clamp (by omega)]
    repeat refine hX _ _ _ _ _ _ _ _ _ _ _ _ _ _ rfl ?_
    rw [show nI i + 2 = nI (i + 2) from nI_add i 2]
    refine ⟨vp_in_nI (by omega) (by omega), ?_⟩
    rw [nI_clamp (by omega)]
    repeat refine hX _ _ _ _ _ _ _ _ _ _ _ _ _ _ rfl ?_
    refine Or.inl ⟨_, _, hx, ?_⟩
    repeat refine hX _ _ _ _ _ _ _ _ _ _ _ _ _ _ rfl ?_
    rw [show nI i + 1 = nI (i + 1) from nI_add i 1]
    refine ⟨vp_in_nI (by omega) (by omega), ?_⟩
    rw [nI_clamp (by omega)]
    repeat refine hX _ _ _ _ _ _ _ _ _ _ _ _ _ _ rfl ?_
    rw [show nI i + 2 = nI (i + 2) from nI_add i 2]
    refine ⟨vp_in_nI (by omega) (by omega), ?_⟩
    rw [nI_clamp (by omega)]
    repeat refine hX _ _ _ _ _ _ _ _ _ _ _ _ _ _ rfl ?_
    refine Or.inl ⟨_, _, hy, ?_⟩
    repeat refine hX _ _ _ _ _ _ _ _ _ _ _ _ _ _ rfl ?_
    refine br_t (show spStatue (sT a) (sN a) (xs (i + 1)) (xs (i + 2)) = spStatue (sT a) (sN a) (xs (i + 1)) (xs (i + 2)) from rfl) ?_
    exact h9
theorem r_one {L : Nat} {xs : Nat → Int32} (hL : L ≤ 2048) {X : zX} {k n : Nat} (hX : z_cl (L, xs) (Ex (L, xs) 9) tL_law true 600000 7302250 (fun v _ => v = some (.int 1)) X) {i : Nat} (hi : i + 4 ≤ L) {sw : Bool} {c : cS} {m : mS} {a : aS} (hA : AWf a) (hR : CRel c a) (hMR : MRel m a) (H : ∀ sw' c' m' a', AWf a' → CRel c' a' → MRel m' a' → X 764 [some (.ref 2001), some (.ref 0), some (.ref 1000), some (.int (nI i))] [] (hC sw' c', hM m') k n) : X 230 [some (.ref 2001), some (.ref 0), some (.ref 1000), some (.int (nI i))] [] (hC sw c, hM m) k n := by
  have hx := c_one (L, xs) 6 sw c (hM m) hA.1 hR.1 hA.2.1 hR.2.1 (xs (i + 1)) (xs (i + 2))
  have hy := m_one (L, xs) 6 (hC sw c) m hA.1 hMR.1 hA.2.1 hMR.2.1 (xs (i + 1)) (xs (i + 2))
  have hx : Ex (L, xs) 9 0 0 42 [.ref 0, .int (xs (i + 1)), .int (xs (i + 2))] (hC sw c, hM m) (some (.int (spOne (sT a) (sN a) (xs (i + 1)) (xs (i + 2))))) (hC sw c, hM m) := hx
  have hy : Ex (L, xs) 9 0 0 120 [.ref 1000, .int (xs (i + 1)), .int (xs (i + 2))] (hC sw c, hM m) (some (.int (spOne (sT a) (sN a) (xs (i + 1)) (xs (i + 2))))) (hC sw c, hM m) := hy
  have h9 := H sw c m a hA hR hMR
  clear H
  cases sw
  all_goals
    repeat refine hX _ _ _ _ _ _ _ _ _ _ _ _ _ _ rfl ?_
    rw [show nI i + 1 = nI (i + 1) from nI_add i 1]
    refine ⟨vp_in_nI (by omega) (by omega), ?_⟩
    rw [nI_clamp (by omega)]
    repeat refine hX _ _ _ _ _ _ _ _ _ _ _ _ _ _ rfl ?_
    rw [show nI i + 2 = nI (i + 2) from nI_add i 2]
    refine ⟨vp_in_nI (by omega) (by omega), ?_⟩
    rw [nI_clamp (by omega)]
    repeat refine hX _ _ _ _ _ _ _ _ _ _ _ _ _ _ rfl ?_
    refine Or.inl ⟨_, _, hx, ?_⟩
    repeat refine hX _ _ _ _ _ _ _ _ _ _ _ _ _ _ rfl ?_
    rw [show nI i + 1 = nI (i + 1) from nI_add i 1]
    refine ⟨vp_in_nI (by omega) (by omega), ?_⟩
    rw [nI_clamp (by omega)]
    repeat refine hX _ _ _ _ _ _ _ _ _ _ _ _ _ _ rfl ?_
    rw [show nI i + 2 = nI (i + 2) from nI_add i 2]
    refine ⟨vp_in_nI (by omega) (by omega), ?_⟩
    rw [nI_clamp (by omega)]
    repeat refine hX _ _ _ _ _ _ _ _ _ _ _ _ _ _ rfl ?_
    refine Or.inl ⟨_, _, hy, ?_⟩
    repeat refine hX _ _ _ _ _ _ _ _ _ _ _ _ _ _ rfl ?_
    refine br_t (show spOne (sT a) (sN a) (xs (i + 1)) (xs (i + 2)) = spOne (sT a) (sN a) (xs (i + 1)) (xs (i + 2)) from rfl) ?_
    exact h9
theorem r_now {L : Nat} {xs : Nat → Int32} (hL : L ≤ 2048) {X : zX} {k n : Nat} (hX : z_cl (L, xs) (Ex (L, xs) 9) tL_law true 600000 7302250 (fun v _ => v = some (.int 1)) X) {i : Nat} (hi : i + 4 ≤ L) {sw : Bool} {c : cS} {m : mS} {a : aS} (hA : AWf a) (hR : CRel c a) (hMR : MRel m a) (H : ∀ sw' c' m' a', AWf a' → CRel c' a' → MRel m' a' → X 764 [some (.ref 2001), some (.ref 0), some (.ref 1000), some (.int (nI i))] [] (hC sw' c', hM m') k n) : X 263 [some (.ref 2001), some (.ref 0), some (.ref 1000), some (.int (nI i))] [] (hC sw c, hM m) k n := by
  have hx := c_now (L, xs) 3 sw c (hM m) hA hR (xs (i + 1))
  have hy := m_now (L, xs) 3 (hC sw c) m hA hMR (xs (i + 1))
  have hx : Ex (L, xs) 9 0 0 43 [.ref 0, .int (xs (i + 1))] (hC sw c, hM m) (some (.int (spNow a (xs (i + 1))))) (hC sw c, hM m) := hx
  have hy : Ex (L, xs) 9 0 0 121 [.ref 1000, .int (xs (i + 1))] (hC sw c, hM m) (some (.int (spNow a (xs (i + 1))))) (hC sw c, hM m) := hy
  have h9 := H sw c m a hA hR hMR
  clear H
  cases sw
  all_goals
    repeat refine hX _ _ _ _ _ _ _ _ _ _ _ _ _ _ rfl ?_
    rw [show nI i + 1 = nI (i + 1) from nI_add i 1]
    refine ⟨vp_in_nI (by omega) (by omega), ?_⟩
    rw [nI_clamp (by omega)]
    repeat refine hX _ _ _ _ _ _ _ _ _ _ _ _ _ _ rfl ?_
    refine Or.inl ⟨_, _, hx, ?_⟩
    repeat refine hX _ _ _ _ _ _ _ _ _ _ _ _ _ _ rfl ?_
    rw [show nI i + 1 = nI (i + 1) from nI_add i 1]
    refine ⟨vp_in_nI (by omega) (by omega), ?_⟩
    rw [nI_clamp (by omega)]
    repeat refine hX _ _ _ _ _ _ _ _ _ _ _ _ _ _ rfl ?_
    refine Or.inl ⟨_, _, hy, ?_⟩
    repeat refine hX _ _ _ _ _ _ _ _ _ _ _ _ _ _ rfl ?_
    refine br_t (show spNow a (xs (i + 1)) = spNow a (xs (i + 1)) from rfl) ?_
    exact h9
theorem r_comes {L : Nat} {xs : Nat → Int32} (hL : L ≤ 2048) {X : zX} {k n : Nat} (hX : z_cl (L, xs) (Ex (L, xs) 9) tL_law true 600000 7302250 (fun v _ => v = some (.int 1)) X) {i : Nat} (hi : i + 4 ≤ L) {sw : Bool} {c : cS} {m : mS} {a : aS} (hA : AWf a) (hR : CRel c a) (hMR : MRel m a) (H : ∀ sw' c' m' a', AWf a' → CRel c' a' → MRel m' a' → X 764 [some (.ref 2001), some (.ref 0), some (.ref 1000), some (.int (nI i))] [] (hC sw' c', hM m') k n) : X 286 [some (.ref 2001), some (.ref 0), some (.ref 1000), some (.int (nI i))] [] (hC sw c, hM m) k n := by
  obtain ⟨c', hx, hR'⟩ := c_comes (L, xs) 6 sw c (hM m) hA hR (xs (i + 1))
  obtain ⟨m', hy, hM'⟩ := m_comes (L, xs) 6 (hC sw c') m hA hMR (xs (i + 1))
  have hx : Ex (L, xs) 9 0 0 44 [.ref 0, .int (xs (i + 1))] (hC sw c, hM m) (some (.int ((spComes a (xs (i + 1))).1))) (hC sw c', hM m) := hx
  have hy : Ex (L, xs) 9 0 0 123 [.ref 1000, .int (xs (i + 1))] (hC sw c', hM m) (some (.int ((spComes a (xs (i + 1))).1))) (hC sw c', hM m') := hy
  have h9 := H sw c' m' _ (wf_comes hA (xs (i + 1))) hR' hM'
  clear H
  cases sw
  all_goals
    repeat refine hX _ _ _ _ _ _ _ _ _ _ _ _ _ _ rfl ?_
    rw [show nI i + 1 = nI (i + 1) from nI_add i 1]
    refine ⟨vp_in_nI (by omega) (by omega), ?_⟩
    rw [nI_clamp (by omega)]
    repeat refine hX _ _ _ _ _ _ _ _ _ _ _ _ _ _ rfl ?_
    refine Or.inl ⟨_, _, hx, ?_⟩
    repeat refine hX _ _ _ _ _ _ _ _ _ _ _ _ _ _ rfl ?_
    rw [show nI i + 1 = nI (i + 1) from nI_add i 1]
    refine ⟨vp_in_nI (by omega) (by omega), ?_⟩
    rw [nI_clamp (by omega)]
    repeat refine hX _ _ _ _ _ _ _ _ _ _ _ _ _ _ rfl ?_
    refine Or.inl ⟨_, _, hy, ?_⟩
    repeat refine hX _ _ _ _ _ _ _ _ _ _ _ _ _ _ rfl ?_
    refine br_t (show (spComes a (xs (i + 1))).1 = (spComes a (xs (i + 1))).1 from rfl) ?_
    exact h9
theorem r_goes {L : Nat} {xs : Nat → Int32} (hL : L ≤ 2048) {X : zX} {k n : Nat} (hX : z_cl (L, xs) (Ex (L, xs) 9) tL_law true 600000 7302250 (fun v _ => v = some (.int 1)) X) {i : Nat} (hi : i + 4 ≤ L) {sw : Bool} {c : cS} {m : mS} {a : aS} (hA : AWf a) (hR : CRel c a) (hMR : MRel m a) (H : ∀ sw' c' m' a', AWf a' → CRel c' a' → MRel m' a' → X 764 [some (.ref 2001), some (.ref 0), some (.ref 1000), some (.int (nI i))] [] (hC sw' c', hM m') k n) : X 309 [some (.ref 2001), some (.ref 0), some (.ref 1000), some (.int (nI i))] [] (hC sw c, hM m) k n := by
  obtain ⟨c', hx, hR'⟩ := c_goes (L, xs) 6 sw c (hM m) hA hR (xs (i + 1))
  obtain ⟨m', hy, hM'⟩ := m_goes (L, xs) 6 (hC sw c') m hA hMR (xs (i + 1))
  have hx : Ex (L, xs) 9 0 0 45 [.ref 0, .int (xs (i + 1))] (hC sw c, hM m) (some (.int ((spGoes a (xs (i + 1))).1))) (hC sw c', hM m) := hx
  have hy : Ex (L, xs) 9 0 0 124 [.ref 1000, .int (xs (i + 1))] (hC sw c', hM m) (some (.int ((spGoes a (xs (i + 1))).1))) (hC sw c', hM m') := hy
  have h9 := H sw c' m' _ (wf_goes hA (xs (i + 1))) hR' hM'
  clear H
  cases sw
  all_goals
    repeat refine hX _ _ _ _ _ _ _ _ _ _ _ _ _ _ rfl ?_
    rw [show nI i + 1 = nI (i + 1) from nI_add i 1]
    refine ⟨vp_in_nI (by omega) (by omega), ?_⟩
    rw [nI_clamp (by omega)]
    repeat refine hX _ _ _ _ _ _ _ _ _ _ _ _ _ _ rfl ?_
    refine Or.inl ⟨_, _, hx, ?_⟩
    repeat refine hX _ _ _ _ _ _ _ _ _ _ _ _ _ _ rfl ?_
    rw [show nI i + 1 = nI (i + 1) from nI_add i 1]
    refine ⟨vp_in_nI (by omega) (by omega), ?_⟩
    rw [nI_clamp (by omega)]
    repeat refine hX _ _ _ _ _ _ _ _ _ _ _ _ _ _ rfl ?_
    refine Or.inl ⟨_, _, hy, ?_⟩
    repeat refine hX _ _ _ _ _ _ _ _ _ _ _ _ _ _ rfl ?_
    refine br_t (show (spGoes a (xs (i + 1))).1 = (spGoes a (xs (i + 1))).1 from rfl) ?_
    exact h9
theorem r_claims {L : Nat} {xs : Nat → Int32} (hL : L ≤ 2048) {X : zX} {k n : Nat} (hX : z_cl (L, xs) (Ex (L, xs) 9) tL_law true 600000 7302250 (fun v _ => v = some (.int 1)) X) {i : Nat} (hi : i + 4 ≤ L) {sw : Bool} {c : cS} {m : mS} {a : aS} (hA : AWf a) (hR : CRel c a) (hMR : MRel m a) (H : ∀ sw' c' m' a', AWf a' → CRel c' a' → MRel m' a' → X 764 [some (.ref 2001), some (.ref 0), some (.ref 1000), some (.int (nI i))] [] (hC sw' c', hM m') k n) : X 332 [some (.ref 2001), some (.ref 0), some (.ref 1000), some (.int (nI i))] [] (hC sw c, hM m) k n := by
  obtain ⟨c', hx, hR'⟩ := c_claims (L, xs) 5 sw c (hM m) hA hR (xs (i + 1)) (xs (i + 2))
  obtain ⟨m', hy, hM'⟩ := m_claims (L, xs) 4 (hC sw c') m hA hMR (xs (i + 1)) (xs (i + 2))
  have hx : Ex (L, xs) 9 0 0 46 [.ref 0, .int (xs (i + 1)), .int (xs (i + 2))] (hC sw c, hM m) (some (.int ((spClaims a (xs (i + 1)) (xs (i + 2))).1))) (hC sw c', hM m) := hx
  have hy : Ex (L, xs) 9 0 0 125 [.ref 1000, .int (xs (i + 1)), .int (xs (i + 2))] (hC sw c', hM m) (some (.int ((spClaims a (xs (i + 1)) (xs (i + 2))).1))) (hC sw c', hM m') := hy
  have h9 := H sw c' m' _ (wf_claims hA (xs (i + 1)) (xs (i + 2))) hR' hM'
  clear H
  cases sw
  all_goals
    repeat refine hX _ _ _ _ _ _ _ _ _ _ _ _ _ _ rfl ?_
    rw [show nI i + 1 = nI (i + 1) from nI_add i 1]
    refine ⟨vp_in_nI (by omega) (by omega), ?_⟩
    rw [nI_clamp (by omega)]
    repeat refine hX _ _ _ _ _ _ _ _ _ _ _ _ _ _ rfl ?_
    rw [show nI i + 2 = nI (i + 2) from nI_add i 2]
    refine ⟨vp_in_nI (by omega) (by omega), ?_⟩
    rw [nI_clamp (by omega)]
    repeat refine hX _ _ _ _ _ _ _ _ _ _ _ _ _ _ rfl ?_
    refine Or.inl ⟨_, _, hx, ?_⟩
    repeat refine hX _ _ _ _ _ _ _ _ _ _ _ _ _ _ rfl ?_
    rw [show nI i + 1 = nI (i + 1) from nI_add i 1]
    refine ⟨vp_in_nI (by omega) (by omega), ?_⟩
    rw [nI_clamp (by omega)]
    repeat refine hX _ _ _ _ _ _ _ _ _ _ _ _ _ _ rfl ?_
    rw [show nI i + 2 = nI (i + 2) from nI_add i 2]
    refine ⟨vp_in_nI (by omega) (by omega), ?_⟩
    rw [nI_clamp (by omega)]
    repeat refine hX _ _ _ _ _ _ _ _ _ _ _ _ _ _ rfl ?_
    refine Or.inl ⟨_, _, hy, ?_⟩
    repeat refine hX _ _ _ _ _ _ _ _ _ _ _ _ _ _ rfl ?_
    refine br_t (show (spClaims a (xs (i + 1)) (xs (i + 2))).1 = (spClaims a (xs (i + 1)) (xs (i + 2))).1 from rfl) ?_
    exact h9
theorem r_pulls {L : Nat} {xs : Nat → Int32} (hL : L ≤ 2048) {X : zX} {k n : Nat} (hX : z_cl (L, xs) (Ex (L, xs) 9) tL_law true 600000 7302250 (fun v _ => v = some (.int 1)) X) {i : Nat} (hi : i + 4 ≤ L) {sw : Bool} {c : cS} {m : mS} {a : aS} (hA : AWf a) (hR : CRel c a) (hMR : MRel m a) (H : ∀ sw' c' m' a', AWf a' → CRel c' a' → MRel m' a' → X 764 [some (.ref 2001), some (.ref 0), some (.ref 1000), some (.int (nI i))] [] (hC sw' c', hM m') k n) : X 365 [some (.ref 2001), some (.ref 0), some (.ref 1000), some (.int (nI i))] [] (hC sw c, hM m) k n := by
  obtain ⟨c', hx, hR'⟩ := c_pulls (L, xs) 4 sw c (hM m) hA hR (xs (i + 1)) (xs (i + 2))
  obtain ⟨m', hy, hM'⟩ := m_pulls (L, xs) 3 (hC sw c') m hA hMR (xs (i + 1)) (xs (i + 2))
  have hx : Ex (L, xs) 9 0 0 47 [.ref 0, .int (xs (i + 1)), .int (xs (i + 2))] (hC sw c, hM m) (some (.int ((spPulls a (xs (i + 1)) (xs (i + 2))).1))) (hC sw c', hM m) := hx
  have hy : Ex (L, xs) 9 0 0 126 [.ref 1000, .int (xs (i + 1)), .int (xs (i + 2))] (hC sw c', hM m) (some (.int ((spPulls a (xs (i + 1)) (xs (i + 2))).1))) (hC sw c', hM m') := hy
  have h9 := H sw c' m' _ (wf_pulls hA (xs (i + 1)) (xs (i + 2))) hR' hM'
  clear H
  cases sw
  all_goals
    repeat refine hX _ _ _ _ _ _ _ _ _ _ _ _ _ _ rfl ?_
    rw [show nI i + 1 = nI (i + 1) from nI_add i 1]
    refine ⟨vp_in_nI (by omega) (by omega), ?_⟩
    rw [nI_clamp (by omega)]
    repeat refine hX _ _ _ _ _ _ _ _ _ _ _ _ _ _ rfl ?_
    rw [show nI i + 2 = nI (i + 2) from nI_add i 2]
    refine ⟨vp_in_nI (by omega) (by omega), ?_⟩
    rw [nI_clamp (by omega)]
    repeat refine hX _ _ _ _ _ _ _ _ _ _ _ _ _ _ rfl ?_
    refine Or.inl ⟨_, _, hx, ?_⟩
    repeat refine hX _ _ _ _ _ _ _ _ _ _ _ _ _ _ rfl ?_
    rw [show nI i + 1 = nI (i + 1) from nI_add i 1]
    refine ⟨vp_in_nI (by omega) (by omega), ?_⟩
    rw [nI_clamp (by omega)]
    repeat refine hX _ _ _ _ _ _ _ _ _ _ _ _ _ _ rfl ?_
    rw [show nI i + 2 = nI (i + 2) from nI_add i 2]
    refine ⟨vp_in_nI (by omega) (by omega), ?_⟩
    rw [nI_clamp (by omega)]
    repeat refine hX _ _ _ _ _ _ _ _ _ _ _ _ _ _ rfl ?_
    refine Or.inl ⟨_, _, hy, ?_⟩
    repeat refine hX _ _ _ _ _ _ _ _ _ _ _ _ _ _ rfl ?_
    refine br_t (show (spPulls a (xs (i + 1)) (xs (i + 2))).1 = (spPulls a (xs (i + 1)) (xs (i + 2))).1 from rfl) ?_
    exact h9
theorem r_undo {L : Nat} {xs : Nat → Int32} (hL : L ≤ 2048) {X : zX} {k n : Nat} (hX : z_cl (L, xs) (Ex (L, xs) 9) tL_law true 600000 7302250 (fun v _ => v = some (.int 1)) X) {i : Nat} (hi : i + 4 ≤ L) {sw : Bool} {c : cS} {m : mS} {a : aS} (hA : AWf a) (hR : CRel c a) (hMR : MRel m a) (H : ∀ sw' c' m' a', AWf a' → CRel c' a' → MRel m' a' → X 764 [some (.ref 2001), some (.ref 0), some (.ref 1000), some (.int (nI i))] [] (hC sw' c', hM m') k n) : X 398 [some (.ref 2001), some (.ref 0), some (.ref 1000), some (.int (nI i))] [] (hC sw c, hM m) k n := by
  obtain ⟨c', hx, hR'⟩ := c_undo (L, xs) 7 sw c (hM m) hA hR 
  obtain ⟨m', hy, hM'⟩ := m_undo (L, xs) 8 (hC sw c') m hA hMR 
  have hx : Ex (L, xs) 9 0 0 48 [.ref 0] (hC sw c, hM m) (some (.int ((spUndo a ).1))) (hC sw c', hM m) := hx
  have hy : Ex (L, xs) 9 0 0 127 [.ref 1000] (hC sw c', hM m) (some (.int ((spUndo a ).1))) (hC sw c', hM m') := hy
  have h9 := H sw c' m' _ (wf_undo hA ) hR' hM'
  clear H
  cases sw
  all_goals
    repeat refine hX _ _ _ _ _ _ _ _ _ _ _ _ _ _ rfl ?_
    refine Or.inl ⟨_, _, hx, ?_⟩
    repeat refine hX _ _ _ _ _ _ _ _ _ _ _ _ _ _ rfl ?_
    refine Or.inl ⟨_, _, hy, ?_⟩
    repeat refine hX _ _ _ _ _ _ _ _ _ _ _ _ _ _ rfl ?_
    refine br_t (show (spUndo a ).1 = (spUndo a ).1 from rfl) ?_
    exact h9
theorem r_gather {L : Nat} {xs : Nat → Int32} (hL : L ≤ 2048) {X : zX} {k n : Nat} (hX : z_cl (L, xs) (Ex (L, xs) 9) tL_law true 600000 7302250 (fun v _ => v = some (.int 1)) X) {i : Nat} (hi : i + 4 ≤ L) {sw : Bool} {c : cS} {m : mS} {a : aS} (hA : AWf a) (hR : CRel c a) (hMR : MRel m a) (H : ∀ sw' c' m' a', AWf a' → CRel c' a' → MRel m' a' → X 764 [some (.ref 2001), some (.ref 0), some (.ref 1000), some (.int (nI i))] [] (hC sw' c', hM m') k n) : X 411 [some (.ref 2001), some (.ref 0), some (.ref 1000), some (.int (nI i))] [] (hC sw c, hM m) k n := by
  have hx := c_gather (L, xs) 5 sw c (hM m) hA hR (xs (i + 1))
  have hy := m_gather (L, xs) 5 (hC sw c) m hA hMR (xs (i + 1))
  have hx : Ex (L, xs) 9 0 0 49 [.ref 0, .int (xs (i + 1))] (hC sw c, hM m) (some (.int (spGather a (xs (i + 1))))) (hC sw c, hM m) := hx
  have hy : Ex (L, xs) 9 0 0 128 [.ref 1000, .int (xs (i + 1))] (hC sw c, hM m) (some (.int (spGather a (xs (i + 1))))) (hC sw c, hM m) := hy
  have h9 := H sw c m a hA hR hMR
  clear H
  cases sw
  all_goals
    repeat refine hX _ _ _ _ _ _ _ _ _ _ _ _ _ _ rfl ?_
    rw [show nI i + 1 = nI (i + 1) from nI_add i 1]
    refine ⟨vp_in_nI (by omega) (by omega), ?_⟩
    rw [nI_clamp (by omega)]
    repeat refine hX _ _ _ _ _ _ _ _ _ _ _ _ _ _ rfl ?_
    refine Or.inl ⟨_, _, hx, ?_⟩
    repeat refine hX _ _ _ _ _ _ _ _ _ _ _ _ _ _ rfl ?_
    rw [show nI i + 1 = nI (i + 1) from nI_add i 1]
    refine ⟨vp_in_nI (by omega) (by omega), ?_⟩
    rw [nI_clamp (by omega)]
    repeat refine hX _ _ _ _ _ _ _ _ _ _ _ _ _ _ rfl ?_
    refine Or.inl ⟨_, _, hy, ?_⟩
    repeat refine hX _ _ _ _ _ _ _ _ _ _ _ _ _ _ rfl ?_
    refine br_t (show spGather a (xs (i + 1)) = spGather a (xs (i + 1)) from rfl) ?_
    exact h9
theorem r_bare {L : Nat} {xs : Nat → Int32} (hL : L ≤ 2048) {X : zX} {k n : Nat} (hX : z_cl (L, xs) (Ex (L, xs) 9) tL_law true 600000 7302250 (fun v _ => v = some (.int 1)) X) {i : Nat} (hi : i + 4 ≤ L) {sw : Bool} {c : cS} {m : mS} {a : aS} (hA : AWf a) (hR : CRel c a) (hMR : MRel m a) (H : ∀ sw' c' m' a', AWf a' → CRel c' a' → MRel m' a' → X 764 [some (.ref 2001), some (.ref 0), some (.ref 1000), some (.int (nI i))] [] (hC sw' c', hM m') k n) : X 434 [some (.ref 2001), some (.ref 0), some (.ref 1000), some (.int (nI i))] [] (hC sw c, hM m) k n := by
  have hx := c_bare (L, xs) 3 sw c (hM m) hA.1 hR.1 hA.2.1 hR.2.1 (xs (i + 1)) (xs (i + 2))
  have hy := m_bare (L, xs) 2 (hC sw c) m hA.1 hMR.1 hA.2.1 hMR.2.1 (xs (i + 1)) (xs (i + 2))
  have hx : Ex (L, xs) 9 0 0 50 [.ref 0, .int (xs (i + 1)), .int (xs (i + 2))] (hC sw c, hM m) (some (.int (spBare (sT a) (sN a) (xs (i + 1)) (xs (i + 2))))) (hC sw c, hM m) := hx
  have hy : Ex (L, xs) 9 0 0 130 [.ref 1000, .int (xs (i + 1)), .int (xs (i + 2))] (hC sw c, hM m) (some (.int (spBare (sT a) (sN a) (xs (i + 1)) (xs (i + 2))))) (hC sw c, hM m) := hy
  have h9 := H sw c m a hA hR hMR
  clear H
  cases sw
  all_goals
    repeat refine hX _ _ _ _ _ _ _ _ _ _ _ _ _ _ rfl ?_
    rw [show nI i + 1 = nI (i + 1) from nI_add i 1]
    refine ⟨vp_in_nI (by omega) (by omega), ?_⟩
    rw [nI_clamp (by omega)]
    repeat refine hX _ _ _ _ _ _ _ _ _ _ _ _ _ _ rfl ?_
    rw [show nI i + 2 = nI (i + 2) from nI_add i 2]
    refine ⟨vp_in_nI (by omega) (by omega), ?_⟩
    rw [nI_clamp (by omega)]
    repeat refine hX _ _ _ _ _ _ _ _ _ _ _ _ _ _ rfl ?_
    refine Or.inl ⟨_, _, hx, ?_⟩
    repeat refine hX _ _ _ _ _ _ _ _ _ _ _ _ _ _ rfl ?_
    rw [show nI i + 1 = nI (i + 1) from nI_add i 1]
    refine ⟨vp_in_nI (by omega) (by omega), ?_⟩
    rw [nI_clamp (by omega)]
    repeat refine hX _ _ _ _ _ _ _ _ _ _ _ _ _ _ rfl ?_
    rw [show nI i + 2 = nI (i + 2) from nI_add i 2]
    refine ⟨vp_in_nI (by omega) (by omega), ?_⟩
    rw [nI_clamp (by omega)]
    repeat refine hX _ _ _ _ _ _ _ _ _ _ _ _ _ _ rfl ?_
    refine Or.inl ⟨_, _, hy, ?_⟩
    repeat refine hX _ _ _ _ _ _ _ _ _ _ _ _ _ _ rfl ?_
    refine br_t (show spBare (sT a) (sN a) (xs (i + 1)) (xs (i + 2)) = spBare (sT a) (sN a) (xs (i + 1)) (xs (i + 2)) from rfl) ?_
    exact h9
theorem r_scale {L : Nat} {xs : Nat → Int32} (hL : L ≤ 2048) {X : zX} {k n : Nat} (hX : z_cl (L, xs) (Ex (L, xs) 9) tL_law true 600000 7302250 (fun v _ => v = some (.int 1)) X) {i : Nat} (hi : i + 4 ≤ L) {sw : Bool} {c : cS} {m : mS} {a : aS} (hA : AWf a) (hR : CRel c a) (hMR : MRel m a) (H : ∀ sw' c' m' a', AWf a' → CRel c' a' → MRel m' a' → X 764 [some (.ref 2001), some (.ref 0), some (.ref 1000), some (.int (nI i))] [] (hC sw' c', hM m') k n) : X 467 [some (.ref 2001), some (.ref 0), some (.ref 1000), some (.int (nI i))] [] (hC sw c, hM m) k n := by
  have hx := c_scale (L, xs) 6 sw c (hM m) hA.1 hR.1 hA.2.1 hR.2.1 (xs (i + 1)) (xs (i + 2))
  have hy := m_scale (L, xs) 5 (hC sw c) m hA.1 hMR.1 hA.2.1 hMR.2.1 (xs (i + 1)) (xs (i + 2))
  have hx : Ex (L, xs) 9 0 0 51 [.ref 0, .int (xs (i + 1)), .int (xs (i + 2))] (hC sw c, hM m) (some (.int (spScale (sT a) (sN a) (xs (i + 1)) (xs (i + 2))))) (hC sw c, hM m) := hx
  have hy : Ex (L, xs) 9 0 0 131 [.ref 1000, .int (xs (i + 1)), .int (xs (i + 2))] (hC sw c, hM m) (some (.int (spScale (sT a) (sN a) (xs (i + 1)) (xs (i + 2))))) (hC sw c, hM m) := hy
  have h9 := H sw c m a hA hR hMR
  clear H
  cases sw
  all_goals
    repeat refine hX _ _ _ _ _ _ _ _ _ _ _ _ _ _ rfl ?_
    rw [show nI i + 1 = nI (i + 1) from nI_add i 1]
    refine ⟨vp_in_nI (by omega) (by omega), ?_⟩
    rw [nI_clamp (by omega)]
    repeat refine hX _ _ _ _ _ _ _ _ _ _ _ _ _ _ rfl ?_
    rw [show nI i + 2 = nI (i + 2) from nI_add i 2]
    refine ⟨vp_in_nI (by omega) (by omega), ?_⟩
    rw [nI_clamp (by omega)]
    repeat refine hX _ _ _ _ _ _ _ _ _ _ _ _ _ _ rfl ?_
    refine Or.inl ⟨_, _, hx, ?_⟩
    repeat refine hX _ _ _ _ _ _ _ _ _ _ _ _ _ _ rfl ?_
    rw [show nI i + 1 = nI (i + 1) from nI_add i 1]
    refine ⟨vp_in_nI (by omega) (by omega), ?_⟩
    rw [nI_clamp (by omega)]
    repeat refine hX _ _ _ _ _ _ _ _ _ _ _ _ _ _ rfl ?_
    rw [show nI i + 2 = nI (i + 2) from nI_add i 2]
    refine ⟨vp_in_nI (by omega) (by omega), ?_⟩
    rw [nI_clamp (by omega)]
    repeat refine hX _ _ _ _ _ _ _ _ _ _ _ _ _ _ rfl ?_
    refine Or.inl ⟨_, _, hy, ?_⟩
    repeat refine hX _ _ _ _ _ _ _ _ _ _ _ _ _ _ rfl ?_
    refine br_t (show spScale (sT a) (sN a) (xs (i + 1)) (xs (i + 2)) = spScale (sT a) (sN a) (xs (i + 1)) (xs (i + 2)) from rfl) ?_
    exact h9
theorem r_offends {L : Nat} {xs : Nat → Int32} (hL : L ≤ 2048) {X : zX} {k n : Nat} (hX : z_cl (L, xs) (Ex (L, xs) 9) tL_law true 600000 7302250 (fun v _ => v = some (.int 1)) X) {i : Nat} (hi : i + 4 ≤ L) {sw : Bool} {c : cS} {m : mS} {a : aS} (hA : AWf a) (hR : CRel c a) (hMR : MRel m a) (H : ∀ sw' c' m' a', AWf a' → CRel c' a' → MRel m' a' → X 764 [some (.ref 2001), some (.ref 0), some (.ref 1000), some (.int (nI i))] [] (hC sw' c', hM m') k n) : X 500 [some (.ref 2001), some (.ref 0), some (.ref 1000), some (.int (nI i))] [] (hC sw c, hM m) k n := by
  have hx := c_offends (L, xs) 6 sw c (hM m) hA.1 hR.1 hR.2.1 (xs (i + 1)) (xs (i + 2))
  have hy := m_offends (L, xs) 4 (hC sw c) m hA.1 hMR.1 hA.2.1 hMR.2.1 (xs (i + 1)) (xs (i + 2))
  have hx : Ex (L, xs) 9 0 0 52 [.ref 0, .int (xs (i + 1)), .int (xs (i + 2))] (hC sw c, hM m) (some (.int (spOffends (sT a) (sN a) (xs (i + 1)) (xs (i + 2))))) (hC sw c, hM m) := hx
  have hy : Ex (L, xs) 9 0 0 133 [.ref 1000, .int (xs (i + 1)), .int (xs (i + 2))] (hC sw c, hM m) (some (.int (spOffends (sT a) (sN a) (xs (i + 1)) (xs (i + 2))))) (hC sw c, hM m) := hy
  have h9 := H sw c m a hA hR hMR
  clear H
  cases sw
  all_goals
    repeat refine hX _ _ _ _ _ _ _ _ _ _ _ _ _ _ rfl ?_
    rw [show nI i + 1 = nI (i + 1) from nI_add i 1]
    refine ⟨vp_in_nI (by omega) (by omega), ?_⟩
    rw [nI_clamp (by omega)]
    repeat refine hX _ _ _ _ _ _ _ _ _ _ _ _ _ _ rfl ?_
    rw [show nI i + 2 = nI (i + 2) from nI_add i 2]
    refine ⟨vp_in_nI (by omega) (by omega), ?_⟩
    rw [nI_clamp (by omega)]
    repeat refine hX _ _ _ _ _ _ _ _ _ _ _ _ _ _ rfl ?_
    refine Or.inl ⟨_, _, hx, ?_⟩
    repeat refine hX _ _ _ _ _ _ _ _ _ _ _ _ _ _ rfl ?_
    rw [show nI i + 1 = nI (i + 1) from nI_add i 1]
    refine ⟨vp_in_nI (by omega) (by omega), ?_⟩
    rw [nI_clamp (by omega)]
    repeat refine hX _ _ _ _ _ _ _ _ _ _ _ _ _ _ rfl ?_
    rw [show nI i + 2 = nI (i + 2) from nI_add i 2]
    refine ⟨vp_in_nI (by omega) (by omega), ?_⟩
    rw [nI_clamp (by omega)]
    repeat refine hX _ _ _ _ _ _ _ _ _ _ _ _ _ _ rfl ?_
    refine Or.inl ⟨_, _, hy, ?_⟩
    repeat refine hX _ _ _ _ _ _ _ _ _ _ _ _ _ _ rfl ?_
    refine br_t (show spOffends (sT a) (sN a) (xs (i + 1)) (xs (i + 2)) = spOffends (sT a) (sN a) (xs (i + 1)) (xs (i + 2)) from rfl) ?_
    exact h9
theorem r_odds {L : Nat} {xs : Nat → Int32} (hL : L ≤ 2048) {X : zX} {k n : Nat} (hX : z_cl (L, xs) (Ex (L, xs) 9) tL_law true 600000 7302250 (fun v _ => v = some (.int 1)) X) {i : Nat} (hi : i + 4 ≤ L) {sw : Bool} {c : cS} {m : mS} {a : aS} (hA : AWf a) (hR : CRel c a) (hMR : MRel m a) (H : ∀ sw' c' m' a', AWf a' → CRel c' a' → MRel m' a' → X 764 [some (.ref 2001), some (.ref 0), some (.ref 1000), some (.int (nI i))] [] (hC sw' c', hM m') k n) : X 533 [some (.ref 2001), some (.ref 0), some (.ref 1000), some (.int (nI i))] [] (hC sw c, hM m) k n := by
  have hx := c_odds (L, xs) 5 sw c (hM m) hA.1 hR.1 hA.2.1 hR.2.1 (xs (i + 1)) (xs (i + 2)) (xs (i + 3))
  have hy := m_odds (L, xs) 5 (hC sw c) m hA.1 hMR.1 hA.2.1 hMR.2.1 (xs (i + 1)) (xs (i + 2)) (xs (i + 3))
  have hx : Ex (L, xs) 9 0 0 53 [.ref 0, .int (xs (i + 1)), .int (xs (i + 2)), .int (xs (i + 3))] (hC sw c, hM m) (some (.int (spOdds (sT a) (sN a) (xs (i + 1)) (xs (i + 2)) (xs (i + 3))))) (hC sw c, hM m) := hx
  have hy : Ex (L, xs) 9 0 0 134 [.ref 1000, .int (xs (i + 1)), .int (xs (i + 2)), .int (xs (i + 3))] (hC sw c, hM m) (some (.int (spOdds (sT a) (sN a) (xs (i + 1)) (xs (i + 2)) (xs (i + 3))))) (hC sw c, hM m) := hy
  have h9 := H sw c m a hA hR hMR
  clear H
  cases sw
  all_goals
    repeat refine hX _ _ _ _ _ _ _ _ _ _ _ _ _ _ rfl ?_
    rw [show nI i + 1 = nI (i + 1) from nI_add i 1]
    refine ⟨vp_in_nI (by omega) (by omega), ?_⟩
    rw [nI_clamp (by omega)]
    repeat refine hX _ _ _ _ _ _ _ _ _ _ _ _ _ _ rfl ?_
    rw [show nI i + 2 = nI (i + 2) from nI_add i 2]
    refine ⟨vp_in_nI (by omega) (by omega), ?_⟩
    rw [nI_clamp (by omega)]
    repeat refine hX _ _ _ _ _ _ _ _ _ _ _ _ _ _ rfl ?_
    rw [show nI i + 3 = nI (i + 3) from nI_add i 3]
    refine ⟨vp_in_nI (by omega) (by omega), ?_⟩
    rw [nI_clamp (by omega)]
    repeat refine hX _ _ _ _ _ _ _ _ _ _ _ _ _ _ rfl ?_
    refine Or.inl ⟨_, _, hx, ?_⟩
    repeat refine hX _ _ _ _ _ _ _ _ _ _ _ _ _ _ rfl ?_
    rw [show nI i + 1 = nI (i + 1) from nI_add i 1]
    refine ⟨vp_in_nI (by omega) (by omega), ?_⟩
    rw [nI_clamp (by omega)]
    repeat refine hX _ _ _ _ _ _ _ _ _ _ _ _ _ _ rfl ?_
    rw [show nI i + 2 = nI (i + 2) from nI_add i 2]
    refine ⟨vp_in_nI (by omega) (by omega), ?_⟩
    rw [nI_clamp (by omega)]
    repeat refine hX _ _ _ _ _ _ _ _ _ _ _ _ _ _ rfl ?_
    rw [show nI i + 3 = nI (i + 3) from nI_add i 3]
    refine ⟨vp_in_nI (by omega) (by omega), ?_⟩
    rw [nI_clamp (by omega)]
    repeat refine hX _ _ _ _ _ _ _ _ _ _ _ _ _ _ rfl ?_
    refine Or.inl ⟨_, _, hy, ?_⟩
    repeat refine hX _ _ _ _ _ _ _ _ _ _ _ _ _ _ rfl ?_
    refine br_t (show spOdds (sT a) (sN a) (xs (i + 1)) (xs (i + 2)) (xs (i + 3)) = spOdds (sT a) (sN a) (xs (i + 1)) (xs (i + 2)) (xs (i + 3)) from rfl) ?_
    exact h9
theorem r_sees {L : Nat} {xs : Nat → Int32} (hL : L ≤ 2048) {X : zX} {k n : Nat} (hX : z_cl (L, xs) (Ex (L, xs) 9) tL_law true 600000 7302250 (fun v _ => v = some (.int 1)) X) {i : Nat} (hi : i + 4 ≤ L) {sw : Bool} {c : cS} {m : mS} {a : aS} (hA : AWf a) (hR : CRel c a) (hMR : MRel m a) (H : ∀ sw' c' m' a', AWf a' → CRel c' a' → MRel m' a' → X 764 [some (.ref 2001), some (.ref 0), some (.ref 1000), some (.int (nI i))] [] (hC sw' c', hM m') k n) : X 576 [some (.ref 2001), some (.ref 0), some (.ref 1000), some (.int (nI i))] [] (hC sw c, hM m) k n := by
  obtain ⟨c', hx, hR'⟩ := c_sees (L, xs) 7 sw c (hM m) hA hR (xs (i + 1)) (xs (i + 2))
  obtain ⟨m', hy, hM'⟩ := m_sees (L, xs) 6 (hC sw c') m hA hMR (xs (i + 1)) (xs (i + 2))
  have hx : Ex (L, xs) 9 0 0 54 [.ref 0, .int (xs (i + 1)), .int (xs (i + 2))] (hC sw c, hM m) (some (.int ((spSees a (xs (i + 1)) (xs (i + 2))).1))) (hC sw c', hM m) := hx
  have hy : Ex (L, xs) 9 0 0 135 [.ref 1000, .int (xs (i + 1)), .int (xs (i + 2))] (hC sw c', hM m) (some (.int ((spSees a (xs (i + 1)) (xs (i + 2))).1))) (hC sw c', hM m') := hy
  have h9 := H sw c' m' _ (wf_sees hA (xs (i + 1)) (xs (i + 2))) hR' hM'
  clear H
  cases sw
  all_goals
    repeat refine hX _ _ _ _ _ _ _ _ _ _ _ _ _ _ rfl ?_
    rw [show nI i + 1 = nI (i + 1) from nI_add i 1]
    refine ⟨vp_in_nI (by omega) (by omega), ?_⟩
    rw [nI_clamp (by omega)]
    repeat refine hX _ _ _ _ _ _ _ _ _ _ _ _ _ _ rfl ?_
    rw [show nI i + 2 = nI (i + 2) from nI_add i 2]
    refine ⟨vp_in_nI (by omega) (by omega), ?_⟩
    rw [nI_clamp (by omega)]
    repeat refine hX _ _ _ _ _ _ _ _ _ _ _ _ _ _ rfl ?_
    refine Or.inl ⟨_, _, hx, ?_⟩
    repeat refine hX _ _ _ _ _ _ _ _ _ _ _ _ _ _ rfl ?_
    rw [show nI i + 1 = nI (i + 1) from nI_add i 1]
    refine ⟨vp_in_nI (by omega) (by omega), ?_⟩
    rw [nI_clamp (by omega)]
    repeat refine hX _ _ _ _ _ _ _ _ _ _ _ _ _ _ rfl ?_
    rw [show nI i + 2 = nI (i + 2) from nI_add i 2]
    refine ⟨vp_in_nI (by omega) (by omega), ?_⟩
    rw [nI_clamp (by omega)]
    repeat refine hX _ _ _ _ _ _ _ _ _ _ _ _ _ _ rfl ?_
    refine Or.inl ⟨_, _, hy, ?_⟩
    repeat refine hX _ _ _ _ _ _ _ _ _ _ _ _ _ _ rfl ?_
    refine br_t (show (spSees a (xs (i + 1)) (xs (i + 2))).1 = (spSees a (xs (i + 1)) (xs (i + 2))).1 from rfl) ?_
    exact h9
theorem r_forget {L : Nat} {xs : Nat → Int32} (hL : L ≤ 2048) {X : zX} {k n : Nat} (hX : z_cl (L, xs) (Ex (L, xs) 9) tL_law true 600000 7302250 (fun v _ => v = some (.int 1)) X) {i : Nat} (hi : i + 4 ≤ L) {sw : Bool} {c : cS} {m : mS} {a : aS} (hA : AWf a) (hR : CRel c a) (hMR : MRel m a) (H : ∀ sw' c' m' a', AWf a' → CRel c' a' → MRel m' a' → X 764 [some (.ref 2001), some (.ref 0), some (.ref 1000), some (.int (nI i))] [] (hC sw' c', hM m') k n) : X 609 [some (.ref 2001), some (.ref 0), some (.ref 1000), some (.int (nI i))] [] (hC sw c, hM m) k n := by
  obtain ⟨c', hx, hR'⟩ := c_forget (L, xs) 8 sw c (hM m) hR 
  obtain ⟨m', hy, hM'⟩ := m_forget (L, xs) 8 (hC sw c') m hMR 
  have hx : Ex (L, xs) 9 0 0 55 [.ref 0] (hC sw c, hM m) (some (.int ((spForget a ).1))) (hC sw c', hM m) := hx
  have hy : Ex (L, xs) 9 0 0 136 [.ref 1000] (hC sw c', hM m) (some (.int ((spForget a ).1))) (hC sw c', hM m') := hy
  have h9 := H sw c' m' _ (wf_forget hA ) hR' hM'
  clear H
  cases sw
  all_goals
    repeat refine hX _ _ _ _ _ _ _ _ _ _ _ _ _ _ rfl ?_
    refine Or.inl ⟨_, _, hx, ?_⟩
    repeat refine hX _ _ _ _ _ _ _ _ _ _ _ _ _ _ rfl ?_
    refine Or.inl ⟨_, _, hy, ?_⟩
    repeat refine hX _ _ _ _ _ _ _ _ _ _ _ _ _ _ rfl ?_
    refine br_t (show (spForget a ).1 = (spForget a ).1 from rfl) ?_
    exact h9
theorem r_who {L : Nat} {xs : Nat → Int32} (hL : L ≤ 2048) {X : zX} {k n : Nat} (hX : z_cl (L, xs) (Ex (L, xs) 9) tL_law true 600000 7302250 (fun v _ => v = some (.int 1)) X) {i : Nat} (hi : i + 4 ≤ L) {sw : Bool} {c : cS} {m : mS} {a : aS} (hA : AWf a) (hR : CRel c a) (hMR : MRel m a) (H : ∀ sw' c' m' a', AWf a' → CRel c' a' → MRel m' a' → X 764 [some (.ref 2001), some (.ref 0), some (.ref 1000), some (.int (nI i))] [] (hC sw' c', hM m') k n) : X 622 [some (.ref 2001), some (.ref 0), some (.ref 1000), some (.int (nI i))] [] (hC sw c, hM m) k n := by
  have hx := c_who (L, xs) 6 sw c (hM m) hA hR 
  have hy := m_who (L, xs) 5 (hC sw c) m hA hMR 
  have hx : Ex (L, xs) 9 0 0 56 [.ref 0] (hC sw c, hM m) (some (.int (nI (spWho a)))) (hC sw c, hM m) := hx
  have hy : Ex (L, xs) 9 0 0 137 [.ref 1000] (hC sw c, hM m) (some (.int (nI (spWho a)))) (hC sw c, hM m) := hy
  have h9 := H sw c m a hA hR hMR
  clear H
  cases sw
  all_goals
    repeat refine hX _ _ _ _ _ _ _ _ _ _ _ _ _ _ rfl ?_
    refine Or.inl ⟨_, _, hx, ?_⟩
    repeat refine hX _ _ _ _ _ _ _ _ _ _ _ _ _ _ rfl ?_
    refine Or.inl ⟨_, _, hy, ?_⟩
    repeat refine hX _ _ _ _ _ _ _ _ _ _ _ _ _ _ rfl ?_
    refine br_t (show nI (spWho a) = nI (spWho a) from rfl) ?_
    exact h9
theorem r_show {L : Nat} {xs : Nat → Int32} (hL : L ≤ 2048) {X : zX} {k n : Nat} (hX : z_cl (L, xs) (Ex (L, xs) 9) tL_law true 600000 7302250 (fun v _ => v = some (.int 1)) X) {i : Nat} (hi : i + 4 ≤ L) {sw : Bool} {c : cS} {m : mS} {a : aS} (hA : AWf a) (hR : CRel c a) (hMR : MRel m a) (H : ∀ sw' c' m' a', AWf a' → CRel c' a' → MRel m' a' → X 764 [some (.ref 2001), some (.ref 0), some (.ref 1000), some (.int (nI i))] [] (hC sw' c', hM m') k n) : X 635 [some (.ref 2001), some (.ref 0), some (.ref 1000), some (.int (nI i))] [] (hC sw c, hM m) k n := by
  have hx := c_show (L, xs) 6 sw c (hM m) hA hR 
  have hy := m_show (L, xs) 4 (hC sw c) m hA hMR 
  have hx : Ex (L, xs) 9 0 0 57 [.ref 0] (hC sw c, hM m) (some (.int (spShow a))) (hC sw c, hM m) := hx
  have hy : Ex (L, xs) 9 0 0 138 [.ref 1000] (hC sw c, hM m) (some (.int (spShow a))) (hC sw c, hM m) := hy
  have h9 := H sw c m a hA hR hMR
  clear H
  cases sw
  all_goals
    repeat refine hX _ _ _ _ _ _ _ _ _ _ _ _ _ _ rfl ?_
    refine Or.inl ⟨_, _, hx, ?_⟩
    repeat refine hX _ _ _ _ _ _ _ _ _ _ _ _ _ _ rfl ?_
    refine Or.inl ⟨_, _, hy, ?_⟩
    repeat refine hX _ _ _ _ _ _ _ _ _ _ _ _ _ _ rfl ?_
    refine br_t (show spShow a = spShow a from rfl) ?_
    exact h9
theorem r_rate {L : Nat} {xs : Nat → Int32} (hL : L ≤ 2048) {X : zX} {k n : Nat} (hX : z_cl (L, xs) (Ex (L, xs) 9) tL_law true 600000 7302250 (fun v _ => v = some (.int 1)) X) {i : Nat} (hi : i + 4 ≤ L) {sw : Bool} {c : cS} {m : mS} {a : aS} (hA : AWf a) (hR : CRel c a) (hMR : MRel m a) (H : ∀ sw' c' m' a', AWf a' → CRel c' a' → MRel m' a' → X 764 [some (.ref 2001), some (.ref 0), some (.ref 1000), some (.int (nI i))] [] (hC sw' c', hM m') k n) : X 648 [some (.ref 2001), some (.ref 0), some (.ref 1000), some (.int (nI i))] [] (hC sw c, hM m) k n := by
  obtain ⟨c', hx, hR'⟩ := c_rate (L, xs) 3 sw c (hM m) hA hR (xs (i + 1)) (xs (i + 2))
  obtain ⟨m', hy, hM'⟩ := m_rate (L, xs) 2 (hC sw c') m hA hMR (xs (i + 1)) (xs (i + 2))
  have hx : Ex (L, xs) 9 0 0 58 [.ref 0, .int (xs (i + 1)), .int (xs (i + 2))] (hC sw c, hM m) (some (.int ((spRate a (xs (i + 1)) (xs (i + 2))).1))) (hC sw c', hM m) := hx
  have hy : Ex (L, xs) 9 0 0 145 [.ref 1000, .int (xs (i + 1)), .int (xs (i + 2))] (hC sw c', hM m) (some (.int ((spRate a (xs (i + 1)) (xs (i + 2))).1))) (hC sw c', hM m') := hy
  have h9 := H sw c' m' _ (wf_rate hA (xs (i + 1)) (xs (i + 2))) hR' hM'
  clear H
  cases sw
  all_goals
    repeat refine hX _ _ _ _ _ _ _ _ _ _ _ _ _ _ rfl ?_
    rw [show nI i + 1 = nI (i + 1) from nI_add i 1]
    refine ⟨vp_in_nI (by omega) (by omega), ?_⟩
    rw [nI_clamp (by omega)]
    repeat refine hX _ _ _ _ _ _ _ _ _ _ _ _ _ _ rfl ?_
    rw [show nI i + 2 = nI (i + 2) from nI_add i 2]
    refine ⟨vp_in_nI (by omega) (by omega), ?_⟩
    rw [nI_clamp (by omega)]
    repeat refine hX _ _ _ _ _ _ _ _ _ _ _ _ _ _ rfl ?_
    refine Or.inl ⟨_, _, hx, ?_⟩
    repeat refine hX _ _ _ _ _ _ _ _ _ _ _ _ _ _ rfl ?_
    rw [show nI i + 1 = nI (i + 1) from nI_add i 1]
    refine ⟨vp_in_nI (by omega) (by omega), ?_⟩
    rw [nI_clamp (by omega)]
    repeat refine hX _ _ _ _ _ _ _ _ _ _ _ _ _ _ rfl ?_
    rw [show nI i + 2 = nI (i + 2) from nI_add i 2]
    refine ⟨vp_in_nI (by omega) (by omega), ?_⟩
    rw [nI_clamp (by omega)]
    repeat refine hX _ _ _ _ _ _ _ _ _ _ _ _ _ _ rfl ?_
    refine Or.inl ⟨_, _, hy, ?_⟩
    repeat refine hX _ _ _ _ _ _ _ _ _ _ _ _ _ _ rfl ?_
    refine br_t (show (spRate a (xs (i + 1)) (xs (i + 2))).1 = (spRate a (xs (i + 1)) (xs (i + 2))).1 from rfl) ?_
    exact h9
theorem r_keep {L : Nat} {xs : Nat → Int32} (hL : L ≤ 2048) {X : zX} {k n : Nat} (hX : z_cl (L, xs) (Ex (L, xs) 9) tL_law true 600000 7302250 (fun v _ => v = some (.int 1)) X) {i : Nat} (hi : i + 4 ≤ L) {sw : Bool} {c : cS} {m : mS} {a : aS} (hA : AWf a) (hR : CRel c a) (hMR : MRel m a) (H : ∀ sw' c' m' a', AWf a' → CRel c' a' → MRel m' a' → X 764 [some (.ref 2001), some (.ref 0), some (.ref 1000), some (.int (nI i))] [] (hC sw' c', hM m') k n) : X 681 [some (.ref 2001), some (.ref 0), some (.ref 1000), some (.int (nI i))] [] (hC sw c, hM m) k n := by
  obtain ⟨c', hx, hR'⟩ := c_keep (L, xs) 7 sw c (hM m) hA hR (xs (i + 1))
  obtain ⟨m', hy, hM'⟩ := m_keep (L, xs) 7 (hC sw c') m hA hMR (xs (i + 1))
  have hx : Ex (L, xs) 9 0 0 59 [.ref 0, .int (xs (i + 1))] (hC sw c, hM m) (some (.int ((spKeep a (xs (i + 1))).1))) (hC sw c', hM m) := hx
  have hy : Ex (L, xs) 9 0 0 146 [.ref 1000, .int (xs (i + 1))] (hC sw c', hM m) (some (.int ((spKeep a (xs (i + 1))).1))) (hC sw c', hM m') := hy
  have h9 := H sw c' m' _ (wf_keep hA (xs (i + 1))) hR' hM'
  clear H
  cases sw
  all_goals
    repeat refine hX _ _ _ _ _ _ _ _ _ _ _ _ _ _ rfl ?_
    rw [show nI i + 1 = nI (i + 1) from nI_add i 1]
    refine ⟨vp_in_nI (by omega) (by omega), ?_⟩
    rw [nI_clamp (by omega)]
    repeat refine hX _ _ _ _ _ _ _ _ _ _ _ _ _ _ rfl ?_
    refine Or.inl ⟨_, _, hx, ?_⟩
    repeat refine hX _ _ _ _ _ _ _ _ _ _ _ _ _ _ rfl ?_
    rw [show nI i + 1 = nI (i + 1) from nI_add i 1]
    refine ⟨vp_in_nI (by omega) (by omega), ?_⟩
    rw [nI_clamp (by omega)]
    repeat refine hX _ _ _ _ _ _ _ _ _ _ _ _ _ _ rfl ?_
    refine Or.inl ⟨_, _, hy, ?_⟩
    repeat refine hX _ _ _ _ _ _ _ _ _ _ _ _ _ _ rfl ?_
    refine br_t (show (spKeep a (xs (i + 1))).1 = (spKeep a (xs (i + 1))).1 from rfl) ?_
    exact h9
theorem r_back {L : Nat} {xs : Nat → Int32} (hL : L ≤ 2048) {X : zX} {k n : Nat} (hX : z_cl (L, xs) (Ex (L, xs) 9) tL_law true 600000 7302250 (fun v _ => v = some (.int 1)) X) {i : Nat} (hi : i + 4 ≤ L) {sw : Bool} {c : cS} {m : mS} {a : aS} (hA : AWf a) (hR : CRel c a) (hMR : MRel m a) (H : ∀ sw' c' m' a', AWf a' → CRel c' a' → MRel m' a' → X 764 [some (.ref 2001), some (.ref 0), some (.ref 1000), some (.int (nI i))] [] (hC sw' c', hM m') k n) : X 704 [some (.ref 2001), some (.ref 0), some (.ref 1000), some (.int (nI i))] [] (hC sw c, hM m) k n := by
  obtain ⟨c', hx, hR'⟩ := c_back (L, xs) 7 sw c (hM m) hA hR (xs (i + 1))
  obtain ⟨m', hy, hM'⟩ := m_back (L, xs) 7 (hC sw c') m hA hMR (xs (i + 1))
  have hx : Ex (L, xs) 9 0 0 60 [.ref 0, .int (xs (i + 1))] (hC sw c, hM m) (some (.int ((spBack a (xs (i + 1))).1))) (hC sw c', hM m) := hx
  have hy : Ex (L, xs) 9 0 0 147 [.ref 1000, .int (xs (i + 1))] (hC sw c', hM m) (some (.int ((spBack a (xs (i + 1))).1))) (hC sw c', hM m') := hy
  have h9 := H sw c' m' _ (wf_back hA (xs (i + 1))) hR' hM'
  clear H
  cases sw
  all_goals
    repeat refine hX _ _ _ _ _ _ _ _ _ _ _ _ _ _ rfl ?_
    rw [show nI i + 1 = nI (i + 1) from nI_add i 1]
    refine ⟨vp_in_nI (by omega) (by omega), ?_⟩
    rw [nI_clamp (by omega)]
    repeat refine hX _ _ _ _ _ _ _ _ _ _ _ _ _ _ rfl ?_
    refine Or.inl ⟨_, _, hx, ?_⟩
    repeat refine hX _ _ _ _ _ _ _ _ _ _ _ _ _ _ rfl ?_
    rw [show nI i + 1 = nI (i + 1) from nI_add i 1]
    refine ⟨vp_in_nI (by omega) (by omega), ?_⟩
    rw [nI_clamp (by omega)]
    repeat refine hX _ _ _ _ _ _ _ _ _ _ _ _ _ _ rfl ?_
    refine Or.inl ⟨_, _, hy, ?_⟩
    repeat refine hX _ _ _ _ _ _ _ _ _ _ _ _ _ _ rfl ?_
    refine br_t (show (spBack a (xs (i + 1))).1 = (spBack a (xs (i + 1))).1 from rfl) ?_
    exact h9
theorem r_count {L : Nat} {xs : Nat → Int32} (hL : L ≤ 2048) {X : zX} {k n : Nat} (hX : z_cl (L, xs) (Ex (L, xs) 9) tL_law true 600000 7302250 (fun v _ => v = some (.int 1)) X) {i : Nat} (hi : i + 4 ≤ L) {sw : Bool} {c : cS} {m : mS} {a : aS} (hA : AWf a) (hR : CRel c a) (hMR : MRel m a) (H : ∀ sw' c' m' a', AWf a' → CRel c' a' → MRel m' a' → X 764 [some (.ref 2001), some (.ref 0), some (.ref 1000), some (.int (nI i))] [] (hC sw' c', hM m') k n) : X 727 [some (.ref 2001), some (.ref 0), some (.ref 1000), some (.int (nI i))] [] (hC sw c, hM m) k n := by
  have hx := c_count (L, xs) 8 sw c (hM m) hR (xs (i + 1))
  have hy := m_count (L, xs) 8 (hC sw c) m hMR (xs (i + 1))
  have hx : Ex (L, xs) 9 0 0 61 [.ref 0, .int (xs (i + 1))] (hC sw c, hM m) (some (.int (spCount a (xs (i + 1))))) (hC sw c, hM m) := hx
  have hy : Ex (L, xs) 9 0 0 148 [.ref 1000, .int (xs (i + 1))] (hC sw c, hM m) (some (.int (spCount a (xs (i + 1))))) (hC sw c, hM m) := hy
  have h9 := H sw c m a hA hR hMR
  clear H
  cases sw
  all_goals
    repeat refine hX _ _ _ _ _ _ _ _ _ _ _ _ _ _ rfl ?_
    rw [show nI i + 1 = nI (i + 1) from nI_add i 1]
    refine ⟨vp_in_nI (by omega) (by omega), ?_⟩
    rw [nI_clamp (by omega)]
    repeat refine hX _ _ _ _ _ _ _ _ _ _ _ _ _ _ rfl ?_
    refine Or.inl ⟨_, _, hx, ?_⟩
    repeat refine hX _ _ _ _ _ _ _ _ _ _ _ _ _ _ rfl ?_
    rw [show nI i + 1 = nI (i + 1) from nI_add i 1]
    refine ⟨vp_in_nI (by omega) (by omega), ?_⟩
    rw [nI_clamp (by omega)]
    repeat refine hX _ _ _ _ _ _ _ _ _ _ _ _ _ _ rfl ?_
    refine Or.inl ⟨_, _, hy, ?_⟩
    repeat refine hX _ _ _ _ _ _ _ _ _ _ _ _ _ _ rfl ?_
    refine br_t (show spCount a (xs (i + 1)) = spCount a (xs (i + 1)) from rfl) ?_
    exact h9
theorem r_trace {L : Nat} {xs : Nat → Int32} (hL : L ≤ 2048) {X : zX} {k n : Nat} (hX : z_cl (L, xs) (Ex (L, xs) 9) tL_law true 600000 7302250 (fun v _ => v = some (.int 1)) X) {i : Nat} (hi : i + 4 ≤ L) {sw : Bool} {c : cS} {m : mS} {a : aS} (hA : AWf a) (hR : CRel c a) (hMR : MRel m a) (H : ∀ sw' c' m' a', AWf a' → CRel c' a' → MRel m' a' → X 764 [some (.ref 2001), some (.ref 0), some (.ref 1000), some (.int (nI i))] [] (hC sw' c', hM m') k n) : X 750 [some (.ref 2001), some (.ref 0), some (.ref 1000), some (.int (nI i))] [] (hC sw c, hM m) k n := by
  have hx := c_trace (L, xs) 8 sw c (hM m) hR 
  have hy := m_trace (L, xs) 8 (hC sw c) m hMR 
  have hx : Ex (L, xs) 9 0 0 62 [.ref 0] (hC sw c, hM m) (some (.long (sTr a))) (hC sw c, hM m) := hx
  have hy : Ex (L, xs) 9 0 0 149 [.ref 1000] (hC sw c, hM m) (some (.long (sTr a))) (hC sw c, hM m) := hy
  have h9 := H sw c m a hA hR hMR
  clear H
  cases sw
  all_goals
    repeat refine hX _ _ _ _ _ _ _ _ _ _ _ _ _ _ rfl ?_
    refine Or.inl ⟨_, _, hx, ?_⟩
    repeat refine hX _ _ _ _ _ _ _ _ _ _ _ _ _ _ rfl ?_
    refine Or.inl ⟨_, _, hy, ?_⟩
    repeat refine hX _ _ _ _ _ _ _ _ _ _ _ _ _ _ rfl ?_
    refine br_t (show lg_cmp (sTr a) (sTr a) = 0 from by unfold lg_cmp; rw [if_neg (Int64.lt_irrefl), if_pos rfl]) ?_
    exact h9
