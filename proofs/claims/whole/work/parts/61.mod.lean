/-! ===== the reference: the reading of a town ===== -/
def hQ (m : mS) (rd rr : cF) (a b c d : Int32) : List zC := [.inr (.inr (5, [.ref 1001, .ref 1002, .ref 1003, .ref 1004, .ref 1005, .int (mUndo m), .ref 1006, .int (mImaged m), .int (mLength m), .ref 1007, .int (mSeen m), .ref 1008, .ref 1009, .long (mTrace m), .int a, .int b, .int c, .int d])),
  .inl (0, 40, mTold m), .inl (0, 40, rd), .inl (0, 19, rr), .inl (0, 19, mNow m), .inl (0, 190, mBefore m), .inl (0, 38, mImages m), .inl (0, 150, mText m), .inl (0, 6, mSeenOf m), .inl (0, 6, mSeenIs m)]
theorem set_sp (m : mS) (hc : List zC) (rd rr : cF) (a b c d : Int32) (Y : Int32) : z_set (hc, hQ m rd rr a b c d) 1000 (.inr (.inr (5, [.ref 1001, .ref 1002, .ref 1003, .ref 1004, .ref 1005, .int (mUndo m), .ref 1006, .int (mImaged m), .int (mLength m), .ref 1007, .int (mSeen m), .ref 1008, .ref 1009, .long (mTrace m), .int a, .int b, .int c, .int d].set 14 (.int Y)))) = (hc, hQ m rd rr Y b c d) := rfl
theorem set_be (m : mS) (hc : List zC) (rd rr : cF) (a b c d : Int32) (Y : Int32) : z_set (hc, hQ m rd rr a b c d) 1000 (.inr (.inr (5, [.ref 1001, .ref 1002, .ref 1003, .ref 1004, .ref 1005, .int (mUndo m), .ref 1006, .int (mImaged m), .int (mLength m), .ref 1007, .int (mSeen m), .ref 1008, .ref 1009, .long (mTrace m), .int a, .int b, .int c, .int d].set 15 (.int Y)))) = (hc, hQ m rd rr a Y c d) := rfl
theorem set_tk (m : mS) (hc : List zC) (rd rr : cF) (a b c d : Int32) (Y : Int32) : z_set (hc, hQ m rd rr a b c d) 1000 (.inr (.inr (5, [.ref 1001, .ref 1002, .ref 1003, .ref 1004, .ref 1005, .int (mUndo m), .ref 1006, .int (mImaged m), .int (mLength m), .ref 1007, .int (mSeen m), .ref 1008, .ref 1009, .long (mTrace m), .int a, .int b, .int c, .int d].set 16 (.int Y)))) = (hc, hQ m rd rr a b Y d) := rfl
theorem set_vl (m : mS) (hc : List zC) (rd rr : cF) (a b c d : Int32) (Y : Int32) : z_set (hc, hQ m rd rr a b c d) 1000 (.inr (.inr (5, [.ref 1001, .ref 1002, .ref 1003, .ref 1004, .ref 1005, .int (mUndo m), .ref 1006, .int (mImaged m), .int (mLength m), .ref 1007, .int (mSeen m), .ref 1008, .ref 1009, .long (mTrace m), .int a, .int b, .int c, .int d].set 17 (.int Y)))) = (hc, hQ m rd rr a b c Y) := rfl
theorem set_rd (m : mS) (hc : List zC) (rd rr : cF) (a b c d : Int32) (G : cF) : z_set (hc, hQ m rd rr a b c d) 1002 (.inl (0, 40, G)) = (hc, hQ m G rr a b c d) := rfl
theorem set_rr (m : mS) (hc : List zC) (rd rr : cF) (a b c d : Int32) (G : cF) : z_set (hc, hQ m rd rr a b c d) 1003 (.inl (0, 19, G)) = (hc, hQ m rd G a b c d) := rfl
theorem hQ_hM (m : mS) : hM m = hQ m (mRead m) (mReadRow m) (mSpot m) (mBegins m) (mToken m) (mValue m) := rfl
def vd (tx : aF) (b n : Nat) : Nat := if n = 0 then 0 else if n = 1 then tx b - 48 else 10 * (tx b - 48) + (tx (b + 1) - 48)
def okN (tx : aF) (L b : Nat) : Bool := decide (tE tx L b - b < 3) && (decide (tx b ≠ 48) || decide (tE tx L b - b = 1))
def mTk (tx : aF) (L b : Nat) : Int32 := if tK tx L b = 2 then (bif okN tx L b then 2 else -1) else if tK tx L b = 4 then -1 else nI (tK tx L b)
def mVl (tx : aF) (L b : Nat) : Int32 := if tK tx L b = 1 then nI (tE tx L b - b) else if tK tx L b = 2 then nI (vd tx b (tE tx L b - b)) else 0
theorem q_let : ∀ c, c < 256 → (decide ((97 : Int64) ≤ (nI c).toInt64) && decide ((nI c).toInt64 ≤ (122 : Int64))) = decide (kOf c = 1) := by decide +kernel
theorem q_fig : ∀ c, c < 256 → (decide ((48 : Int64) ≤ (nI c).toInt64) && decide ((nI c).toInt64 ≤ (57 : Int64))) = decide (kOf c = 2) := by decide +kernel
theorem m_isLetter (S : zS) (d : Nat) (h : zH) {c : Nat} (hc : c < 256) : Ex S (d + 2) 0 0 97 [.int (nI c)] h (some (.int (b2i (decide (kOf c = 1))))) h := by
  have hin := m_in S d h (nI c).toInt64 97 122
  rw [q_let c hc] at hin
  (refine exI rfl rfl ?_; intro X hX)
  repeat refine hX _ _ _ _ _ _ _ _ _ _ _ _ _ _ rfl ?_
  refine Or.inl ⟨_, _, hin, ?_⟩
  repeat refine hX _ _ _ _ _ _ _ _ _ _ _ _ _ _ rfl ?_
  exact ⟨b2i_01 _, rfl, rfl⟩
theorem m_isFigure (S : zS) (d : Nat) (h : zH) {c : Nat} (hc : c < 256) : Ex S (d + 2) 0 0 96 [.int (nI c)] h (some (.int (b2i (decide (kOf c = 2))))) h := by
  have hin := m_in S d h (nI c).toInt64 48 57
  rw [q_fig c hc] at hin
  (refine exI rfl rfl ?_; intro X hX)
  repeat refine hX _ _ _ _ _ _ _ _ _ _ _ _ _ _ rfl ?_
  refine Or.inl ⟨_, _, hin, ?_⟩
  repeat refine hX _ _ _ _ _ _ _ _ _ _ _ _ _ _ rfl ?_
  exact ⟨b2i_01 _, rfl, rfl⟩
def QR (m : mS) (tx : aF) (L : Nat) : Prop := L ≤ 150 ∧ mLength m = nI L ∧ (∀ i, i < L → mText m i = nI (tx i)) ∧ ∀ i, i < L → tx i < 256
theorem scn_b {tx : aF} {L b : Nat} (hb : b < L) (hk : kOf (tx b) = 1 ∨ kOf (tx b) = 2) : scn tx (kOf (tx b)) (L - b) b = tE tx L b := by
  rw [tE, if_pos hb, if_pos hk, show L - b = (L - (b + 1)) + 1 by omega, scn, if_pos rfl]
theorem m_next (S : zS) (d : Nat) (hc : List zC) (m : mS) {tx : aF} {L p b : Nat} (hR : QR m tx L) (hp : p ≤ L) (hb : tB tx L p = b) (rd rr : cF) (be0 tk0 vl0 : Int32) : Ex S (d + 3) 0 0 98 [.ref 1000] (hc, hQ m rd rr (nI p) be0 tk0 vl0) none (hc, hQ m rd rr (nI (tE tx L b)) (nI b) (mTk tx L b) (mVl tx L b)) := by
  obtain ⟨hL, hl, htx, hlt⟩ := hR
  have hbL := tB_le tx hp
  rw [hb] at hbL
  have hle := fun h i (hi : i < L) => m_isLetter S d h (hlt i hi)
  have hfi := fun h i (hi : i < L) => m_isFigure S d h (hlt i hi)
  (refine exI rfl rfl ?_; intro X hX)
  have h38 : X 38 [some (.ref 1000), none, none] [] (hc, hQ m rd rr (nI b) be0 tk0 vl0) 0 0 := by
    by_cases hbl : b < L
    · have hkb := kOf_le (tx b)
      have hte := tE_le tx hbL.2
      have hte2 := hte.2.2 hbl
      have htK : tK tx L b = kOf (tx b) := by unfold tK; rw [if_pos hbl]
      have hcb := hlt b hbl
      have hlb := fun h => hle h b hbl
      have hfb := fun h => hfi h b hbl
      have loopA : kOf (tx b) = 1 → ∀ (n q : Nat), q + n = L → b ≤ q → scn tx 1 n q = tE tx L b → X 85 [some (.ref 1000), some (.int (nI (tx b))), none] [] (hc, hQ m rd rr (nI q) (nI b) 0 0) 0 0 := by
        intro hk n
        have hvl : mVl tx L b = nI (tE tx L b - b) := by unfold mVl; rw [if_pos (htK.trans hk)]
        have htk : mTk tx L b = 1 := by unfold mTk; rw [if_neg (by omega), if_neg (by omega), htK, hk]; rfl
        have fin : ∀ q, q = tE tx L b → X 124 [some (.ref 1000), some (.int (nI (tx b))), none] [] (hc, hQ m rd rr (nI q) (nI b) 0 0) 0 0 := by
          intro q hq
          subst hq
          iterate 4 (refine hX _ _ _ _ _ _ _ _ _ _ _ _ _ _ rfl ?_)
          rw [set_tk]
          iterate 8 (refine hX _ _ _ _ _ _ _ _ _ _ _ _ _ _ rfl ?_)
          rw [set_vl]
          repeat refine hX _ _ _ _ _ _ _ _ _ _ _ _ _ _ rfl ?_
          rw [hvl, htk, show nI (tE tx L b - b) = nI (tE tx L b) - nI b from (pk_sub (by omega)).symm]
          exact ⟨rfl, rfl⟩
        induction n with
        | zero =>
          intro q hq hbq he
          rw [scn] at he
          repeat refine hX _ _ _ _ _ _ _ _ _ _ _ _ _ _ rfl ?_
          refine br_t (show mLength m ≤ nI q from by rw [hl]; exact nI_le (by omega) (by omega)) ?_
          exact fin q he
        | succ n ih =>
          intro q hq hbq he
          rw [scn] at he
          have hlq := fun h => hle h q (by omega)
          have hxq := htx q (by omega)
          repeat refine hX _ _ _ _ _ _ _ _ _ _ _ _ _ _ rfl ?_
          refine br_f (show ¬ mLength m ≤ nI q from by rw [hl]; exact nI_ge (by omega) (by omega)) ?_
          repeat refine hX _ _ _ _ _ _ _ _ _ _ _ _ _ _ rfl ?_
          refine ⟨vp_in_nI (by omega) (by decide), ?_⟩
          rw [nI_clamp (by omega)]
          rw [hxq]
          repeat refine hX _ _ _ _ _ _ _ _ _ _ _ _ _ _ rfl ?_
          refine Or.inl ⟨_, _, hlq _, ?_⟩
          repeat refine hX _ _ _ _ _ _ _ _ _ _ _ _ _ _ rfl ?_
          by_cases hkq : kOf (tx q) = 1
          · rw [if_pos hkq] at he
            have h7 := ih (q + 1) (by omega) (by omega) he
            rw [← nI_1] at h7
            rw [decide_eq_true hkq]
            refine br_f (show ¬ b2i true = 0 by decide) ?_
            iterate 7 (refine hX _ _ _ _ _ _ _ _ _ _ _ _ _ _ rfl ?_)
            rw [set_sp]
            exact h7
          · rw [if_neg hkq] at he
            rw [decide_eq_false hkq]
            refine br_t (show b2i false = 0 from rfl) ?_
            exact fin q he
      have loopB : kOf (tx b) = 2 → ∀ (n q : Nat), q + n = L → b ≤ q → scn tx 2 n q = tE tx L b → (∀ i, b ≤ i → i < q → kOf (tx i) = 2) → X 152 [some (.ref 1000), some (.int (nI (tx b))), none] [] (hc, hQ m rd rr (nI q) (nI b) 0 (nI (vd tx b (q - b)))) 0 0 := by
        intro hk n
        have hk2 := kOf_2 hk
        have hvl : mVl tx L b = nI (vd tx b (tE tx L b - b)) := by unfold mVl; rw [if_neg (by omega), if_pos (htK.trans hk)]
        have htk : mTk tx L b = (bif okN tx L b then 2 else -1) := by unfold mTk; rw [if_pos (htK.trans hk)]
        have fin : ∀ q, q = tE tx L b → X 235 [some (.ref 1000), some (.int (nI (tx b))), none] [] (hc, hQ m rd rr (nI q) (nI b) 0 (nI (vd tx b (q - b)))) 0 0 := by
          intro q hq
          subst hq
          have h272 : ∀ u : Bool, u = okN tx L b → X 272 [some (.ref 1000), some (.int (nI (tx b))), none] [.int (b2i u)] (hc, hQ m rd rr (nI (tE tx L b)) (nI b) 0 (nI (vd tx b (tE tx L b - b)))) 0 0 := by
            intro u hu
            repeat refine hX _ _ _ _ _ _ _ _ _ _ _ _ _ _ rfl ?_
            cases u with
            | false =>
              refine br_t (show b2i false = 0 from rfl) ?_
              iterate 3 (refine hX _ _ _ _ _ _ _ _ _ _ _ _ _ _ rfl ?_)
              rw [set_tk]
              repeat refine hX _ _ _ _ _ _ _ _ _ _ _ _ _ _ rfl ?_
              rw [hvl, htk, ← hu]
              exact ⟨rfl, rfl⟩
            | true =>
              refine br_f (show ¬ b2i true = 0 by decide) ?_
              iterate 4 (refine hX _ _ _ _ _ _ _ _ _ _ _ _ _ _ rfl ?_)
              rw [set_tk]
              repeat refine hX _ _ _ _ _ _ _ _ _ _ _ _ _ _ rfl ?_
              rw [hvl, htk, ← hu]
              exact ⟨rfl, rfl⟩
          have esub : nI (tE tx L b) - nI b = nI (tE tx L b - b) := pk_sub (by omega)
          iterate 6 (refine hX _ _ _ _ _ _ _ _ _ _ _ _ _ _ rfl ?_)
          rw [esub]
          iterate 1 (refine hX _ _ _ _ _ _ _ _ _ _ _ _ _ _ rfl ?_)
          by_cases h3 : 3 ≤ tE tx L b - b
          · refine br_t (show nI 3 ≤ nI (tE tx L b - b) from nI_le h3 (by omega)) ?_
            iterate 1 (refine hX _ _ _ _ _ _ _ _ _ _ _ _ _ _ rfl ?_)
            exact h272 false (by unfold okN; rw [decide_eq_false (by omega)]; rfl)
          · refine br_f (show ¬ nI 3 ≤ nI (tE tx L b - b) from nI_ge (by omega) (by decide)) ?_
            repeat refine hX _ _ _ _ _ _ _ _ _ _ _ _ _ _ rfl ?_
            by_cases h48 : tx b = 48
            · refine br_f (show ¬ ¬ nI (tx b) = nI 48 from fun h => h (congrArg nI h48)) ?_
              iterate 6 (refine hX _ _ _ _ _ _ _ _ _ _ _ _ _ _ rfl ?_)
              rw [esub]
              iterate 1 (refine hX _ _ _ _ _ _ _ _ _ _ _ _ _ _ rfl ?_)
              by_cases h1 : tE tx L b - b = 1
              · refine br_f (show ¬ ¬ nI (tE tx L b - b) = nI 1 from fun h => h (congrArg nI h1)) ?_
                iterate 2 (refine hX _ _ _ _ _ _ _ _ _ _ _ _ _ _ rfl ?_)
                exact h272 true (by unfold okN; rw [decide_eq_true (show tE tx L b - b < 3 by omega), decide_eq_true h1, Bool.or_true]; rfl)
              · refine br_t (show ¬ nI (tE tx L b - b) = nI 1 from fun h => h1 ((nI_eq (by omega) (by decide)).mp h)) ?_
                iterate 1 (refine hX _ _ _ _ _ _ _ _ _ _ _ _ _ _ rfl ?_)
                exact h272 false (by unfold okN; rw [decide_eq_false h1, Bool.or_false, decide_eq_false (show ¬ tx b ≠ 48 from fun h => h h48), Bool.and_false])
            · refine br_t (show ¬ nI (tx b) = nI 48 from fun h => h48 ((nI_eq (by omega) (by omega)).mp h)) ?_
              iterate 2 (refine hX _ _ _ _ _ _ _ _ _ _ _ _ _ _ rfl ?_)
              exact h272 true (by unfold okN; rw [decide_eq_true (show tE tx L b - b < 3 by omega), decide_eq_true h48]; rfl)
        induction n with
        | zero =>
          intro q hq hbq he hall
          rw [scn] at he
          repeat refine hX _ _ _ _ _ _ _ _ _ _ _ _ _ _ rfl ?_
          refine br_t (show mLength m ≤ nI q from by rw [hl]; exact nI_le (by omega) (by omega)) ?_
          exact fin q he
        | succ n ih =>
          intro q hq hbq he hall
          rw [scn] at he
          have hlq := fun h => hfi h q (by omega)
          have hxq := htx q (by omega)
          repeat refine hX _ _ _ _ _ _ _ _ _ _ _ _ _ _ rfl ?_
          refine br_f (show ¬ mLength m ≤ nI q from by rw [hl]; exact nI_ge (by omega) (by omega)) ?_
          repeat refine hX _ _ _ _ _ _ _ _ _ _ _ _ _ _ rfl ?_
          refine ⟨vp_in_nI (by omega) (by decide), ?_⟩
          rw [nI_clamp (by omega)]
          rw [hxq]
          repeat refine hX _ _ _ _ _ _ _ _ _ _ _ _ _ _ rfl ?_
          refine Or.inl ⟨_, _, hlq _, ?_⟩
          repeat refine hX _ _ _ _ _ _ _ _ _ _ _ _ _ _ rfl ?_
          by_cases hkq : kOf (tx q) = 2
          · rw [if_pos hkq] at he
            have h7 := ih (q + 1) (by omega) (by omega) he (fun i h1 h2 => by
              by_cases hi : i = q
              · rw [hi]; exact hkq
              · exact hall i h1 (by omega))
            rw [← nI_1] at h7
            have dq := kOf_2 hkq
            rw [decide_eq_true hkq]
            refine br_f (show ¬ b2i true = 0 by decide) ?_
            iterate 7 (refine hX _ _ _ _ _ _ _ _ _ _ _ _ _ _ rfl ?_)
            rw [show nI q - nI b = nI (q - b) from pk_sub hbq]
            iterate 1 (refine hX _ _ _ _ _ _ _ _ _ _ _ _ _ _ rfl ?_)
            by_cases h2 : 2 ≤ q - b
            · refine br_t (show nI 2 ≤ nI (q - b) from nI_le h2 (by omega)) ?_
              rw [show vd tx b (q + 1 - b) = vd tx b (q - b) by unfold vd; rw [if_neg (by omega), if_neg (by omega), if_neg (by omega), if_neg (by omega)]] at h7
              iterate 4 (refine hX _ _ _ _ _ _ _ _ _ _ _ _ _ _ rfl ?_)
              rw [set_vl]
              iterate 6 (refine hX _ _ _ _ _ _ _ _ _ _ _ _ _ _ rfl ?_)
              rw [set_sp]
              exact h7
            · refine br_f (show ¬ nI 2 ≤ nI (q - b) from nI_ge (by omega) (by decide)) ?_
              have hv : 10 * vd tx b (q - b) + tx q - 48 = vd tx b (q + 1 - b) := by
                unfold vd
                by_cases h0 : q = b
                · subst h0
                  rw [if_pos (by omega), if_neg (by omega), if_pos (by omega)]
                  omega
                · have h1 : q = b + 1 := by omega
                  subst h1
                  rw [if_neg (by omega), if_pos (by omega), if_neg (by omega), if_neg (by omega)]
                  omega
              rw [← hv, show nI (10 * vd tx b (q - b) + tx q - 48) = 10 * nI (vd tx b (q - b)) + nI (tx q) - 48 from by rw [show (10 : Int32) = nI 10 from rfl, pk_mul, nI_add, show (48 : Int32) = nI 48 from rfl, pk_sub (by omega)]] at h7
              repeat refine hX _ _ _ _ _ _ _ _ _ _ _ _ _ _ rfl ?_
              refine ⟨vp_in_nI (by omega) (by decide), ?_⟩
              rw [nI_clamp (by omega)]
              rw [hxq]
              iterate 6 (refine hX _ _ _ _ _ _ _ _ _ _ _ _ _ _ rfl ?_)
              rw [set_vl]
              iterate 6 (refine hX _ _ _ _ _ _ _ _ _ _ _ _ _ _ rfl ?_)
              rw [set_sp]
              exact h7
          · rw [if_neg hkq] at he
            rw [decide_eq_false hkq]
            refine br_t (show b2i false = 0 from rfl) ?_
            exact fin q he
      have hxb := htx b hbl
      iterate 5 (refine hX _ _ _ _ _ _ _ _ _ _ _ _ _ _ rfl ?_)
      rw [set_be]
      iterate 3 (refine hX _ _ _ _ _ _ _ _ _ _ _ _ _ _ rfl ?_)
      rw [set_vl]
      iterate 3 (refine hX _ _ _ _ _ _ _ _ _ _ _ _ _ _ rfl ?_)
      rw [set_tk]
      repeat refine hX _ _ _ _ _ _ _ _ _ _ _ _ _ _ rfl ?_
      refine br_t (show ¬ nI b = mLength m from by rw [hl]; exact fun h => by have := (nI_eq (by omega) (by omega)).mp h; omega) ?_
      repeat refine hX _ _ _ _ _ _ _ _ _ _ _ _ _ _ rfl ?_
      refine ⟨vp_in_nI (by omega) (by decide), ?_⟩
      rw [nI_clamp (by omega)]
      rw [hxb]
      repeat refine hX _ _ _ _ _ _ _ _ _ _ _ _ _ _ rfl ?_
      refine Or.inl ⟨_, _, hlb _, ?_⟩
      repeat refine hX _ _ _ _ _ _ _ _ _ _ _ _ _ _ rfl ?_
      by_cases k1 : kOf (tx b) = 1
      · have h7 := loopA k1 (L - b) b (by omega) (Nat.le_refl _) (by have := scn_b hbl (Or.inl k1); rwa [k1] at this)
        rw [decide_eq_true k1]
        refine br_f (show ¬ b2i true = 0 by decide) ?_
        exact h7
      · rw [decide_eq_false k1]
        refine br_t (show b2i false = 0 from rfl) ?_
        repeat refine hX _ _ _ _ _ _ _ _ _ _ _ _ _ _ rfl ?_
        refine Or.inl ⟨_, _, hfb _, ?_⟩
        repeat refine hX _ _ _ _ _ _ _ _ _ _ _ _ _ _ rfl ?_
        by_cases k2 : kOf (tx b) = 2
        · have h7 := loopB k2 (L - b) b (by omega) (Nat.le_refl _) (by have := scn_b hbl (Or.inr k2); rwa [k2] at this) (fun i h1 h2 => by omega)
          rw [show vd tx b (b - b) = 0 by unfold vd; rw [if_pos (by omega)]] at h7
          rw [decide_eq_true k2]
          refine br_f (show ¬ b2i true = 0 by decide) ?_
          exact h7
        · rw [decide_eq_false k2]
          refine br_t (show b2i false = 0 from rfl) ?_
          have he : tE tx L b = b + 1 := by unfold tE; rw [if_pos hbl, if_neg (fun h => h.elim k1 k2)]
          have hvl : mVl tx L b = 0 := by unfold mVl; rw [if_neg (by omega), if_neg (by omega)]
          rw [hvl, he, ← nI_1] at hX
          iterate 7 (refine hX _ _ _ _ _ _ _ _ _ _ _ _ _ _ rfl ?_)
          rw [set_sp]
          repeat refine hX _ _ _ _ _ _ _ _ _ _ _ _ _ _ rfl ?_
          by_cases h59 : tx b = 59
          · have htk : mTk tx L b = 3 := by
              have : kOf (tx b) = 3 := by rw [h59]; decide
              unfold mTk
              rw [if_neg (by omega), if_neg (by omega), htK, this]
              rfl
            refine br_f (show ¬ ¬ nI (tx b) = nI 59 from fun h => h (congrArg nI h59)) ?_
            iterate 4 (refine hX _ _ _ _ _ _ _ _ _ _ _ _ _ _ rfl ?_)
            rw [set_tk]
            repeat refine hX _ _ _ _ _ _ _ _ _ _ _ _ _ _ rfl ?_
            rw [htk]
            exact ⟨rfl, rfl⟩
          · have htk : mTk tx L b = -1 := by
              have : kOf (tx b) ≠ 3 := by
                intro h
                unfold kOf at h
                by_cases c1 : 97 ≤ tx b ∧ tx b ≤ 122
                · rw [if_pos c1] at h; omega
                · rw [if_neg c1] at h
                  by_cases c2 : 48 ≤ tx b ∧ tx b ≤ 57
                  · rw [if_pos c2] at h; omega
                  · rw [if_neg c2, if_neg h59] at h; omega
              unfold mTk
              rw [if_neg (by omega), if_pos (by omega)]
            refine br_t (show ¬ nI (tx b) = nI 59 from fun h => h59 ((nI_eq (by omega) (by omega)).mp h)) ?_
            iterate 3 (refine hX _ _ _ _ _ _ _ _ _ _ _ _ _ _ rfl ?_)
            rw [set_tk]
            repeat refine hX _ _ _ _ _ _ _ _ _ _ _ _ _ _ rfl ?_
            rw [htk]
            exact ⟨rfl, rfl⟩
    · have hbe : b = L := by omega
      have htK : tK tx L b = 0 := by unfold tK; rw [if_neg hbl]
      iterate 5 (refine hX _ _ _ _ _ _ _ _ _ _ _ _ _ _ rfl ?_)
      rw [set_be]
      iterate 3 (refine hX _ _ _ _ _ _ _ _ _ _ _ _ _ _ rfl ?_)
      rw [set_vl]
      iterate 3 (refine hX _ _ _ _ _ _ _ _ _ _ _ _ _ _ rfl ?_)
      rw [set_tk]
      repeat refine hX _ _ _ _ _ _ _ _ _ _ _ _ _ _ rfl ?_
      refine br_f (show ¬ ¬ nI b = mLength m from by rw [hl, hbe]; exact fun h => h rfl) ?_
      repeat refine hX _ _ _ _ _ _ _ _ _ _ _ _ _ _ rfl ?_
      rw [show mTk tx L b = 0 by unfold mTk; rw [htK]; rfl, show mVl tx L b = 0 by unfold mVl; rw [htK]; rfl, show tE tx L b = b by unfold tE; rw [if_neg hbl]]
      exact ⟨rfl, rfl⟩
  have loop1 : ∀ (n q : Nat), q + n = L → skp tx n q = b → X 0 [some (.ref 1000), none, none] [] (hc, hQ m rd rr (nI q) be0 tk0 vl0) 0 0 := by
    intro n
    induction n with
    | zero =>
      intro q hq he
      rw [skp] at he
      rw [← he] at h38
      repeat refine hX _ _ _ _ _ _ _ _ _ _ _ _ _ _ rfl ?_
      refine br_t (show mLength m ≤ nI q from by rw [hl]; exact nI_le (by omega) (by omega)) ?_
      exact h38
    | succ n ih =>
      intro q hq he
      rw [skp] at he
      have hql := hlt q (by omega)
      have hxq := htx q (by omega)
      repeat refine hX _ _ _ _ _ _ _ _ _ _ _ _ _ _ rfl ?_
      refine br_f (show ¬ mLength m ≤ nI q from by rw [hl]; exact nI_ge (by omega) (by omega)) ?_
      repeat refine hX _ _ _ _ _ _ _ _ _ _ _ _ _ _ rfl ?_
      refine ⟨vp_in_nI (by omega) (by decide), ?_⟩
      rw [nI_clamp (by omega)]
      rw [hxq]
      repeat refine hX _ _ _ _ _ _ _ _ _ _ _ _ _ _ rfl ?_
      by_cases h32 : tx q = 32
      · rw [if_pos h32] at he
        refine br_f (show ¬ ¬ nI (tx q) = nI 32 from fun h => h (congrArg nI h32)) ?_
        have h7 := ih (q + 1) (by omega) he
        rw [← nI_1] at h7
        iterate 7 (refine hX _ _ _ _ _ _ _ _ _ _ _ _ _ _ rfl ?_)
        rw [set_sp]
        exact h7
      · rw [if_neg h32] at he
        rw [← he] at h38
        refine br_t (show ¬ nI (tx q) = nI 32 from fun h => h32 ((nI_eq (by omega) (by omega)).mp h)) ?_
        exact h38
  exact loop1 (L - p) p (by omega) hb
