theorem b2i_01 (b : Bool) : b2i b = 0 ∨ b2i b = 1 := by cases b <;> simp [b2i]
theorem zhas_t {set i : Int32} (h : (set >>> (i &&& 31)) &&& 1 = 1) : zhas set i = true := beq_iff_eq.mpr h
theorem zhas_f {set i : Int32} (h : ¬ (set >>> (i &&& 31)) &&& 1 = 1) : zhas set i = false := beq_eq_false_iff_ne.mpr h
theorem c_has (S : zS) (d : Nat) (h : zH) (set i : Int32) : Ex S (d + 1) 0 0 82 [.int set, .int i] h (some (.int (b2i (zhas set i)))) h := by
  (refine exI rfl rfl ?_; intro X hX)
  repeat refine hX _ _ _ _ _ _ _ _ _ _ _ _ _ _ rfl ?_
  refine ⟨fun hc => ?_, fun hc => ?_⟩
  · have hc : ¬ (set >>> (i &&& 31)) &&& 1 = 1 := hc
    repeat refine hX _ _ _ _ _ _ _ _ _ _ _ _ _ _ rfl ?_
    exact ⟨Or.inl rfl, by rw [zhas_f hc]; rfl, rfl⟩
  · have hc : ¬ ¬ (set >>> (i &&& 31)) &&& 1 = 1 := hc
    repeat refine hX _ _ _ _ _ _ _ _ _ _ _ _ _ _ rfl ?_
    exact ⟨Or.inr rfl, by rw [zhas_t (Classical.not_not.mp hc)]; rfl, rfl⟩
theorem c_wrongedBy (S : zS) (d : Nat) (sw : Bool) (c : cS) (hm : List zC) {s : Nat} (hs : s < 6) : Ex S (d + 1) 0 0 63 [.ref 0, .int (nI s)] (hC sw c, hm) (some (.int (tInsulted (cTo c) s ||| nClaimed (cSc c) s))) (hC sw c, hm) := by
  cases sw
  all_goals
    (refine exI rfl rfl ?_; intro X hX)
    repeat refine hX _ _ _ _ _ _ _ _ _ _ _ _ _ _ rfl ?_
    refine ⟨vp_in_nI (by omega) (by decide), ?_⟩
    rw [nI_clamp (by omega)]
    repeat refine hX _ _ _ _ _ _ _ _ _ _ _ _ _ _ rfl ?_
    refine ⟨vp_in_nI (by omega) (by decide), ?_⟩
    rw [nI_clamp (by omega)]
    repeat refine hX _ _ _ _ _ _ _ _ _ _ _ _ _ _ rfl ?_
    exact ⟨rfl, rfl⟩
