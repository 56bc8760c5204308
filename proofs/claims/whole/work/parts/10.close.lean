section ZC
variable {p : Program} {l : Launch} {e : Env} {R : Room} {s : State} {m : MethodId} {args : Array Value} {below : List Frame} {meth : Method} {c : Code} {Q : State → Prop}
theorem z_okr_iff {h : zH} {k : Nat} : z_okr h k = true ↔ k < h.1.length ∨ (1000 ≤ k ∧ k < 1000 + h.2.length) ∨ 2000 ≤ k := by
  unfold z_okr Nat.blt
  simp only [Bool.or_eq_true, Bool.and_eq_true, Nat.ble_eq, Nat.succ_le_iff]
  exact or_assoc
theorem z_okr_no {h : zH} {k : Nat} (hh : ¬ (k < h.1.length ∨ (1000 ≤ k ∧ k < 1000 + h.2.length) ∨ 2000 ≤ k)) : z_okr h k = false := Bool.eq_false_iff.mpr fun e => hh (z_okr_iff.mp e)
/-- the givens of a body -/
def z_ctx (p : Program) (R : Room) (s : State) (m : MethodId) (args : Array Value) (meth : Method) (c : Code) (D : va_G) (dA : Nat → ClassId) (A : Nat → Prop) (S : zS) (ad0 : Nat → Nat) (own ml d mc ms : Nat) (cc : ByteArray) (ini : Bool) (Ts : List Jvm.Cond) : Prop :=
  p.tables.exec = Jvm.exec ∧ c.code = cc ∧ c.maxLocals = ml ∧ s.vm.findClass (z_cn own) = some m.cls ∧ (∀ w ∈ Ts, w.before args s = true) ∧ (∀ w ∈ z_ws, w ∈ Ts) ∧ z_K D dA s ∧ z_Z S (ad0 2000) (ad0 2001) A s s.heap ∧ (∀ q, s.heap.size ≤ q → A q) ∧ (ini = true → meth.name = "<init>") ∧ mc ≤ R.cells ∧ ms ≤ R.slots ∧ d + 1 ≤ R.frames ∧ 36 * (d + 1) ≤ R.locals
theorem z_len {cc : ByteArray} {pc nx n : Nat} {i : Instr} (hd : decode cc pc = .ok (i, nx - pc)) (h : nx = pc + n) : decode cc pc = .ok (i, n) := by
  rw [hd, h, Nat.add_sub_cancel_left]
theorem z_toNat {b : Nat} (h : b ≤ 1000) : ¬ (Int32.ofNat b) < 0 ∧ (Int32.ofNat b).toNatClampNeg = b := ⟨nI_pos (by omega), nI_clamp (by omega)⟩
theorem z_bool {v : Int32} (h : v = 0 ∨ v = 1) : narrow .boolean (.int v) = .int v ∧ fits .boolean (.int v) = true := by
  rcases h with rfl | rfl <;> decide
theorem z_nar {v : Int32} (h : v = 0 ∨ v = 1) : vp_nar .boolean v = v := by
  rcases h with rfl | rfl <;> decide
theorem z_pf_of {cd : Nat} {v : Value} {P : Prop} (h : z_pf cd v P) {ty : FieldType} (ht : z_kd ty = cd) (ad : Nat → Nat) : narrow ty (z_tv ad v) = z_tv ad v ∧ fits ty (z_tv ad v) = true ∧ P := by
  unfold z_pf at h
  split at h
  · cases ty <;> first | (simp [z_kd] at ht; done) | exact ⟨rfl, rfl, h⟩
  · cases ty <;> first | (simp [z_kd] at ht; done) | exact ⟨(z_bool h.1).1, (z_bool h.1).2, h.2⟩
  · cases ty <;> first | (simp [z_kd] at ht; done) | exact ⟨rfl, rfl, h⟩
  · cases ty <;> first | (simp [z_kd] at ht; done) | exact ⟨rfl, rfl, h⟩
  · exact h.elim
theorem z_sw_of {v : Int32} {d : Nat} {K : Nat → Prop} : ∀ {sw : List (Int32 × Nat)}, z_sw v d K sw → (∃ (j : Nat) (x : Int32) (t : Nat), sw[j]? = some (x, t) ∧ v = x ∧ K t) ∨ ((∀ (j : Nat) (x : Int32) (t : Nat), sw[j]? = some (x, t) → ¬ v = x) ∧ K d)
  | [], h => Or.inr ⟨fun j x t hj => by simp at hj, h⟩
  | (x, t) :: r, h => by
    by_cases hv : v = x
    · exact Or.inl ⟨0, x, t, rfl, hv, h.1 hv⟩
    · rcases z_sw_of (h.2 hv) with ⟨j, x', t', h1, h2, h3⟩ | ⟨h1, h2⟩
      · exact Or.inl ⟨j + 1, x', t', by simpa using h1, h2, h3⟩
      · refine Or.inr ⟨fun j x' t' hj => ?_, h2⟩
        cases j with
        | zero => simp at hj; rw [← hj.1]; exact hv
        | succ j => exact h1 j x' t' (by simpa using hj)
/-- a new cell's address, and the rest as it was -/
theorem z_rel.push {D : va_G} {dA : Nat → ClassId} {A : Nat → Prop} {s : State} {h0 : zH} {ad0 : Nat → Nat} {ml : Nat} {ls : zL} {h h' : zH} {k : Nat} {ad : Nat → Nat} {H H1 : Heap} {locs locs1 : List Loc} {lsC : Array Slot} (hR : z_rel D dA A s h0 ad0 ml ls h k ad H locs lsC) {r q : Nat} {c1 : zC} {st : List Value} (hwf : z_wf h ls st = true)
    (hr : z_okr h r = false) (hr0 : z_okr h0 r = false) (hh : z_tw dA (z_ad ad r q) h' = z_tw dA (z_ad ad r q) h ++ [(q, z_te dA ad c1)]) (hl : h.1.length ≤ h'.1.length ∧ h.2.length ≤ h'.2.length)
    (hP : va_P D z_cls (z_tw dA ad h ++ [(q, z_te dA ad c1)]) H1) (hD : va_D A (z_tw dA ad h ++ [(q, z_te dA ad c1)])) (hS : va_S A s.heap H1 locs1) : z_rel D dA A s h0 ad0 ml ls h' (k + 1) (z_ad ad r q) H1 locs1 lsC ∧ st.map (z_tv (z_ad ad r q)) = st.map (z_tv ad) := by
  unfold z_wf at hwf
  simp only [Bool.and_eq_true] at hwf
  have ha : ∀ x, z_okr h x = true → z_ad ad r q x = ad x := fun x hx => by
    unfold z_ad
    rw [if_neg]
    intro e
    rw [e, hr] at hx
    cases hx
  have e1 := z_tw_congr dA ha hwf.1.1
  rw [← e1, ← hh] at hP hD
  refine ⟨⟨fun x hx => ?_, fun h => by omega, ⟨Nat.le_trans hR.2.2.1.1 hl.1, Nat.le_trans hR.2.2.1.2 hl.2⟩, hP, hD, hS, z_lr_congr ha hwf.1.2 hR.lr⟩, z_tvs_congr ha hwf.2⟩
  unfold z_ad
  rw [if_neg]
  · exact hR.1 x hx
  · intro e
    rw [e, hr0] at hx
    cases hx
theorem z_new_of {h : zH} {cd : Nat} {e1 : zC} {K : Nat → zH → Prop} (hh : z_new h cd e1 K) : ∃ (r : Nat) (h' : zH), K r h' ∧ z_okr h r = false ∧ (∀ h0 : zH, h0.1.length ≤ h.1.length → h0.2.length ≤ h.2.length → z_okr h0 r = false) ∧ (h.1.length ≤ h'.1.length ∧ h.2.length ≤ h'.2.length) ∧ ∀ (dA : Nat → ClassId) (ad : Nat → Nat), z_tw dA ad h' = z_tw dA ad h ++ [(ad r, z_te dA ad e1)] := by
  unfold z_new at hh
  split at hh
  · rename_i h1
    obtain ⟨hl, hk⟩ := hh
    refine ⟨_, _, hk, ?_, fun h0 g1 g2 => ?_, ⟨by simp, by simp⟩, fun dA ad => ?_⟩
    · exact z_okr_no (by dsimp only [List.length_nil]; omega)
    · dsimp only [List.length_nil] at g1 g2
      exact z_okr_no (by omega)
    · unfold z_tw
      rw [z_tl_app]
      simp [z_tl]
  · rename_i h1 h2
    obtain ⟨hl, hk⟩ := hh
    refine ⟨_, _, hk, ?_, fun h0 g1 g2 => ?_, ⟨by simp, by simp⟩, fun dA ad => ?_⟩
    · exact z_okr_no (by dsimp only; omega)
    · dsimp only at g1 g2
      exact z_okr_no (by omega)
    · unfold z_tw
      dsimp only
      rw [z_tl_app, List.append_assoc]
  · exact hh.elim
end ZC
