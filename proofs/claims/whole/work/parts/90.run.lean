/-! ===== the law ===== -/
def aS0 : aS := mkA tT0 (0, fun _ => 0, fun _ => 0) 0 (fun _ => 0) 0 (fun _ => (0, fun _ => 0, fun _ => 0)) (fun _ => false) (fun _ => (0, fun _ => 0, fun _ => 0)) 0 (fun _ => 0) (fun _ => 0) 0
theorem wf_S0 : AWf aS0 := ⟨⟨by decide, by decide, by decide, by decide, by decide, fun j hj => absurd hj (Nat.not_lt_zero j), fun j hj => absurd hj (Nat.not_lt_zero j)⟩, ⟨by decide, fun j hj => absurd hj (Nat.not_lt_zero j), fun j hj => absurd hj (Nat.not_lt_zero j), fun j hj => absurd hj (Nat.not_lt_zero j)⟩, ⟨by decide, fun j hj => absurd hj (Nat.not_lt_zero j)⟩, ⟨by decide, fun j hj => absurd hj (Nat.not_lt_zero j)⟩, fun i hi h => absurd (show false = true from h) (by decide), ⟨by decide, fun j hj => absurd hj (Nat.not_lt_zero j)⟩⟩
theorem rel_cS0 : CRel cS0 aS0 := ⟨⟨rfl, rfl, rfl, rfl, fun j hj => absurd hj (Nat.not_lt_zero j), fun j hj => absurd hj (Nat.not_lt_zero j)⟩, ⟨rfl, fun j hj => absurd hj (Nat.not_lt_zero j), fun j hj => rfl⟩, ⟨rfl, fun j hj => absurd hj (Nat.not_lt_zero j)⟩, ⟨rfl, fun j hj => absurd hj (Nat.not_lt_zero j)⟩, fun i hi => rfl, fun h => absurd (show false = true from h) (by decide), fun h => absurd (show false = true from h) (by decide), ⟨rfl, fun j hj => absurd hj (Nat.not_lt_zero j)⟩, rfl⟩
theorem rel_mS0 : MRel mS0 aS0 := ⟨⟨rfl, rfl, rfl, rfl, fun j hj => absurd hj (Nat.not_lt_zero j), fun j hj => absurd hj (Nat.not_lt_zero j)⟩, ⟨rfl, fun j hj => absurd hj (Nat.not_lt_zero j), fun j hj => absurd hj (Nat.not_lt_zero j)⟩, ⟨rfl, fun j hj => absurd hj (Nat.not_lt_zero j)⟩, ⟨rfl, fun j hj => absurd hj (Nat.not_lt_zero j)⟩, ⟨rfl, fun i hi h => absurd (show false = true from h) (by decide)⟩, ⟨rfl, fun j hj => absurd hj (Nat.not_lt_zero j)⟩, rfl⟩
theorem law_end {L i : Nat} (hL : L ≤ 2048) (hi : i ≤ L) : nI L - 4 < nI i ↔ L < i + 4 := by
  have e1 : (nI L - 4).toInt = (L : Int) - 4 := pk_sub_toInt (b := 4) (by omega) (by decide)
  have e2 : (nI i).toInt = i := nI_toInt (by omega)
  rw [Int32.lt_iff_toInt_lt, e1, e2]
  omega
theorem law_loop {L : Nat} {xs : Nat → Int32} (hL : L ≤ 2048) {X : zX} {k n : Nat} (hX : z_cl (L, xs) (Ex (L, xs) 9) tL_law true 600000 7302250 (fun v _ => v = some (.int 1)) X) : ∀ (q i : Nat), L ≤ i + 4 * q → i ≤ L → ∀ (sw : Bool) (c : cS) (m : mS) (a : aS), AWf a → CRel c a → MRel m a → X 18 [some (.ref 2001), some (.ref 0), some (.ref 1000), some (.int (nI i))] [] (hC sw c, hM m) k n := by
  have fin : ∀ i, i ≤ L → L < i + 4 → ∀ sw c m, X 18 [some (.ref 2001), some (.ref 0), some (.ref 1000), some (.int (nI i))] [] (hC sw c, hM m) k n := by
    intro i hi h4 sw c m
    repeat refine hX _ _ _ _ _ _ _ _ _ _ _ _ _ _ rfl ?_
    refine br_t (show nI L - 4 < nI i from (law_end hL hi).mpr h4) ?_
    repeat refine hX _ _ _ _ _ _ _ _ _ _ _ _ _ _ rfl ?_
    exact ⟨Or.inr rfl, rfl⟩
  intro q
  induction q with
  | zero =>
    intro i hq hi sw c m a hA hR hMR
    exact fin i hi (by omega) sw c m
  | succ q ih =>
    intro i hq hi sw c m a hA hR hMR
    by_cases h4 : L < i + 4
    · exact fin i hi h4 sw c m
    · have H : ∀ sw' c' m' a', AWf a' → CRel c' a' → MRel m' a' → X 764 [some (.ref 2001), some (.ref 0), some (.ref 1000), some (.int (nI i))] [] (hC sw' c', hM m') k n := by
        intro sw' c' m' a' hA' hR' hM'
        have h7 := ih (i + 4) (by omega) (by omega) sw' c' m' a' hA' hR' hM'
        rw [← nI_add i 4] at h7
        iterate 2 (refine hX _ _ _ _ _ _ _ _ _ _ _ _ _ _ rfl ?_)
        exact h7
      have hi4 : i + 4 ≤ L := by omega
      repeat refine hX _ _ _ _ _ _ _ _ _ _ _ _ _ _ rfl ?_
      refine br_f (show ¬ nI L - 4 < nI i from fun h => h4 ((law_end hL hi).mp h)) ?_
      repeat refine hX _ _ _ _ _ _ _ _ _ _ _ _ _ _ rfl ?_
      refine ⟨vp_in_nI (by omega) (by omega), ?_⟩
      rw [nI_clamp (by omega)]
      iterate 3 (refine hX _ _ _ _ _ _ _ _ _ _ _ _ _ _ rfl ?_)
      exact ⟨fun _ => r_type hL hX hi4 hA hR hMR H, fun _ => ⟨fun _ => r_clear hL hX hi4 hA hR hMR H, fun _ => ⟨fun _ => r_town hL hX hi4 hA hR hMR H, fun _ => ⟨fun _ => r_statue hL hX hi4 hA hR hMR H, fun _ => ⟨fun _ => r_one hL hX hi4 hA hR hMR H, fun _ => ⟨fun _ => r_now hL hX hi4 hA hR hMR H, fun _ => ⟨fun _ => r_comes hL hX hi4 hA hR hMR H, fun _ => ⟨fun _ => r_goes hL hX hi4 hA hR hMR H, fun _ => ⟨fun _ => r_claims hL hX hi4 hA hR hMR H, fun _ => ⟨fun _ => r_pulls hL hX hi4 hA hR hMR H, fun _ => ⟨fun _ => r_undo hL hX hi4 hA hR hMR H, fun _ => ⟨fun _ => r_gather hL hX hi4 hA hR hMR H, fun _ => ⟨fun _ => r_bare hL hX hi4 hA hR hMR H, fun _ => ⟨fun _ => r_scale hL hX hi4 hA hR hMR H, fun _ => ⟨fun _ => r_offends hL hX hi4 hA hR hMR H, fun _ => ⟨fun _ => r_odds hL hX hi4 hA hR hMR H, fun _ => ⟨fun _ => r_sees hL hX hi4 hA hR hMR H, fun _ => ⟨fun _ => r_forget hL hX hi4 hA hR hMR H, fun _ => ⟨fun _ => r_who hL hX hi4 hA hR hMR H, fun _ => ⟨fun _ => r_show hL hX hi4 hA hR hMR H, fun _ => ⟨fun _ => r_rate hL hX hi4 hA hR hMR H, fun _ => ⟨fun _ => r_keep hL hX hi4 hA hR hMR H, fun _ => ⟨fun _ => r_back hL hX hi4 hA hR hMR H, fun _ => ⟨fun _ => r_count hL hX hi4 hA hR hMR H, fun _ => ⟨fun _ => r_trace hL hX hi4 hA hR hMR H, fun _ => H sw c m a hA hR hMR⟩⟩⟩⟩⟩⟩⟩⟩⟩⟩⟩⟩⟩⟩⟩⟩⟩⟩⟩⟩⟩⟩⟩⟩⟩
theorem law_run (L : Nat) (xs : Nat → Int32) (hL : L ≤ 2048) : ∀ X : zX, z_cl (L, xs) (Ex (L, xs) 9) tL_law true 600000 7302250 (fun v _ => v = some (.int 1)) X → X 0 (z_ent 4 [.ref 2001]) [] ([], []) 0 0 := by
  intro X hX
  have h18 := law_loop hL (k := 0 + 1 + 100 + 1 + 100) (n := 0 + 10 + 1000 + 18 + 1000) hX L 0 (by omega) (Nat.zero_le _) false cS0 mS0 aS0 wf_S0 rel_cS0 rel_mS0
  repeat refine hX _ _ _ _ _ _ _ _ _ _ _ _ _ _ rfl ?_
  refine ⟨rfl, by decide, by decide, by decide, ?_⟩
  repeat refine hX _ _ _ _ _ _ _ _ _ _ _ _ _ _ rfl ?_
  refine Or.inr ⟨_, _, 100, 1000, i_class (L, xs) 5, rfl, by decide, by decide, ?_⟩
  repeat refine hX _ _ _ _ _ _ _ _ _ _ _ _ _ _ rfl ?_
  refine ⟨rfl, by decide, by decide, by decide, ?_⟩
  repeat refine hX _ _ _ _ _ _ _ _ _ _ _ _ _ _ rfl ?_
  refine Or.inr ⟨_, _, 100, 1000, i_model (L, xs) 8, rfl, by decide, by decide, ?_⟩
  iterate 3 (refine hX _ _ _ _ _ _ _ _ _ _ _ _ _ _ rfl ?_)
  exact h18
