/-! ===== soundness: a run of the small machine is a run of the machine ===== -/
theorem z_clsP {a : Nat} {r : vw_C} (h : z_cls[a]? = some r) : (∀ k, k < r.2.2 → parseFieldDescriptor (r.2.1 k).2.2.1 = some (z_ty a k)) ∧ (∀ x, x < r.2.2 → ∀ y, y < r.2.2 → x ≠ y → (r.2.1 x).2.1 ≠ (r.2.1 y).2.1) ∧ (∀ w ∈ u_ws r.1 r.2.1 r.2.2, w ∈ z_ws) ∧ (∀ j, j < r.2.2 → defaultValue (z_ty a j) = vp_V (z_dfl a) j) ∧ (z_dfl a).length = r.2.2 := by
  have hw : ∀ w ∈ u_ws r.1 r.2.1 r.2.2, w ∈ z_ws := by
    intro w hw
    have h1 := List.all_eq_true.mp f_cls r (List.mem_of_getElem? h)
    have h2 := of_decide_eq_true (List.all_eq_true.mp h1 w hw)
    refine z_inW h2 ?_
    obtain ⟨k, -, rfl⟩ := List.mem_map.mp hw
    unfold u_lay
    split <;> rfl
  match a, h with
  | 0, h => cases h; exact ⟨tyX0_ok, nmX0, hw, by decide +kernel, rfl⟩
  | 1, h => cases h; exact ⟨tyX1_ok, nmX1, hw, by decide +kernel, rfl⟩
  | 2, h => cases h; exact ⟨tyX2_ok, nmX2, hw, by decide +kernel, rfl⟩
  | 3, h => cases h; exact ⟨tyX3_ok, nmX3, hw, by decide +kernel, rfl⟩
  | 4, h => cases h; exact ⟨tyX4_ok, nmX4, hw, by decide +kernel, rfl⟩
  | 5, h => cases h; exact ⟨tyX5_ok, nmX5, hw, by decide +kernel, rfl⟩
  | k + 6, h => simp [z_cls] at h
theorem z_flP {o v a b : Nat} (h : (o, v, a, b) ∈ z_fl) : ∃ r : vw_C, z_cls[a]? = some r ∧ b < r.2.2 ∧ Jvm.Cond.fieldLink (z_cn o) v (r.2.1 b).1 (r.2.1 b).2.1 (r.2.1 b).2.2.1 ∈ z_ws := by
  obtain ⟨p, hp⟩ := z_all2_of f_fl _ h
  dsimp only at hp
  cases hc : z_cls[a]? with
  | none => rw [hc] at hp; exact absurd hp Bool.false_ne_true
  | some r =>
    rw [hc] at hp
    simp only [Bool.and_eq_true, decide_eq_true_eq] at hp
    exact ⟨r, rfl, hp.1, z_inW (z_is_mem hp.2) rfl⟩
theorem z_mlP {o v M : Nat} (h : (o, v, M) ∈ z_ml) : ∃ r, z_my[M]? = some r ∧ Jvm.Cond.methodLink (z_cn o) v r.2.1 ∈ z_ws := by
  obtain ⟨p, hp⟩ := z_all2_of f_ml _ h
  dsimp only at hp
  cases hc : z_my[M]? with
  | none => rw [hc] at hp; exact absurd hp Bool.false_ne_true
  | some r => rw [hc] at hp; exact ⟨r, rfl, z_inW (z_is_mem hp) rfl⟩
theorem z_cllP {o v a : Nat} (h : (o, v, a) ∈ z_cll) : ∃ r : vw_C, z_cls[a]? = some r ∧ Jvm.Cond.classLink (z_cn o) v r.1 ∈ z_ws ∧ Jvm.Cond.instantiable r.1 r.2.2 ∈ z_ws ∧ Jvm.Cond.initialized r.1 ∈ z_ws := by
  have hp := List.all_eq_true.mp f_cll _ h
  dsimp only at hp
  cases hc : z_cls[a]? with
  | none => rw [hc] at hp; exact absurd hp Bool.false_ne_true
  | some r =>
    rw [hc] at hp
    simp only [Bool.and_eq_true, decide_eq_true_eq] at hp
    exact ⟨r, rfl, z_inW hp.1.1 rfl, z_inW hp.1.2 rfl, z_inW hp.2 rfl⟩
theorem z_vsP {M b c : Nat} (h : (M, b, c) ∈ z_vs) : ∃ r e, z_my[M]? = some r ∧ z_cls[c]? = some e ∧ Jvm.Cond.instanceMethod r.2.1 ∈ z_ws ∧ Jvm.Cond.selects r.2.1.cls r.2.1 r.2.1 ∈ z_ws ∧ (parseMethodDescriptor r.2.1.desc).map (fun d => d.parameters.length + 1) = some b ∧ e.1 = r.2.1.cls ∧ r.1 < 8 := by
  obtain ⟨p, hp⟩ := z_all2_of f_vs1 _ h
  obtain ⟨q, hq⟩ := z_all2_of f_vs2 _ h
  dsimp only at hp hq
  cases hc : z_my[M]? with
  | none => rw [hc] at hq; exact absurd hq Bool.false_ne_true
  | some r =>
    cases he : z_cls[c]? with
    | none => rw [hc, he] at hp; exact absurd hp Bool.false_ne_true
    | some e =>
      rw [hc, he] at hp
      rw [hc] at hq
      simp only [Bool.and_eq_true, decide_eq_true_eq] at hp hq
      exact ⟨r, e, rfl, rfl, z_inW (z_is_mem hp.1.1.1) rfl, List.mem_filter.mpr ⟨List.mem_of_getElem? hq, rfl⟩, hp.1.1.2, hp.1.2, hp.2⟩
theorem z_ssP {M b c : Nat} (h : (M, b, c) ∈ z_ss) : ∃ r, z_my[M]? = some r ∧ Jvm.Cond.static r.2.1 ∈ z_ws ∧ (parseMethodDescriptor r.2.1.desc).map (fun d => d.parameters.length) = some b ∧ r.1 < 8 := by
  obtain ⟨p, hp⟩ := z_all2_of f_ss _ h
  dsimp only at hp
  cases hc : z_my[M]? with
  | none => rw [hc] at hp; exact absurd hp Bool.false_ne_true
  | some r =>
    rw [hc] at hp
    simp only [Bool.and_eq_true, decide_eq_true_eq] at hp
    exact ⟨r, rfl, z_inW (z_is_mem hp.1.1) rfl, hp.1.2, hp.2⟩
theorem z_isP {M b c : Nat} (h : (M, b, c) ∈ z_is) : ∃ r, z_my[M]? = some r ∧ Jvm.Cond.instanceMethod r.2.1 ∈ z_ws ∧ r.2.1.name = "<init>" ∧ (parseMethodDescriptor r.2.1.desc).map (fun d => d.parameters.length + 1) = some b ∧ r.2.2.2.2 = none ∧ r.1 < 8 := by
  obtain ⟨p, hp⟩ := z_all2_of f_is _ h
  dsimp only at hp
  cases hc : z_my[M]? with
  | none => rw [hc] at hp; exact absurd hp Bool.false_ne_true
  | some r =>
    rw [hc] at hp
    simp only [Bool.and_eq_true, decide_eq_true_eq] at hp
    exact ⟨r, rfl, z_inW (z_is_mem hp.1.1.1.1) rfl, hp.1.1.1.2, hp.1.1.2, hp.1.2, hp.2⟩
theorem z_myP {M : Nat} {r : Nat × MethodName × ByteArray × Nat × Option FieldType} (h : z_my[M]? = some r) (h8 : ¬ r.1 = 8) : z_cn r.1 = r.2.1.cls ∧ Jvm.Cond.code r.2.1 r.2.2.1 r.2.2.2.1 r.2.2.2.2 ∈ z_ws ∧ Jvm.Cond.initialized r.2.1.cls ∈ z_ws ∧ plainFor r.2.1 = true ∧ (r.2.1.cls ≠ "java/lang/invoke/MethodHandle" ∧ r.2.1.cls ≠ "java/lang/invoke/VarHandle") ∧ r.2.2.2.1 ≤ 17 := by
  obtain ⟨p, hp⟩ := z_all2_of f_my _ (List.mem_of_getElem? h)
  simp only [Bool.or_eq_true, Bool.and_eq_true, decide_eq_true_eq] at hp
  rcases hp with hp | hp
  · exact absurd hp h8
  · rcases f_code r (List.mem_of_getElem? h) with hc | hc
    · exact absurd hc h8
    · exact ⟨hp.1.1.1.1.1, z_inW hc rfl, z_inW (z_is_mem hp.1.1.1.1.2) rfl, hp.1.1.1.2, ⟨hp.1.1.2, hp.1.2⟩, Nat.le_of_ble_eq_true hp.2⟩
theorem z_goodIn {Ts : List Jvm.Cond} (hTs : ∀ w ∈ z_ws, w ∈ Ts) {w : Jvm.Cond} (hw : w ∈ z_ws) : GoodIn Ts (w :: z_ws) := by
  intro w' h
  rcases List.mem_cons.mp h with h | h
  · rw [h]; exact ⟨hTs w hw, good_of_word (List.mem_filter.mp hw).2⟩
  · exact ⟨hTs w' h, good_of_word (List.mem_filter.mp h).2⟩
/-! what is given of a state, beside its cells -/
def z_nest (U : State) : Prop := (∀ q ∈ z_nl, ∀ r, z_my[q.2.2.1]? = some r → va_Nw (Jvm.Cond.methodLinkNest (z_cn q.1) q.2.1 r.2.1 q.2.2.2) U) ∧ va_AO RX2 U
def z_tys (dA : Nat → ClassId) : List (ClassId × FieldType) := [(dA 0, .int), (dA 1, .boolean), (dA 2, .object RX2)]
def z_K (D : va_G) (dA : Nat → ClassId) (U : State) : Prop := va_K D z_cls (z_tys dA) U ∧ z_nest U
def z_Z (S : zS) (t0 t1 : Nat) (A : Nat → Prop) (U : State) (H : Heap) : Prop := va_Z "InsultStatues" "FACTORIAL" "[I" (.ref t0) A U H ∧ va_T .int t0 7 (fun j => .int (z_fac j)) A U H ∧ va_T .int t1 S.1 (fun j => .int (S.2 j)) A U H
theorem z_K.warm {D : va_G} {dA : Nat → ClassId} {s U : State} (hW : s.WarmedH U.vm) (h : z_K D dA s) : z_K D dA U := ⟨va_K.moved hW.alike h.1, fun q hq r hr => va_Nw.warmM hW (h.2.1 q hq r hr), va_AO.moved hW.alike h.2.2⟩
theorem z_K.same {D : va_G} {dA : Nat → ClassId} {s U : State} (hv : s.vm = U.vm) (h : z_K D dA s) : z_K D dA U := ⟨va_K.moved (hv ▸ Vm.Alike.refl s.vm) h.1, fun q hq r hr => va_Nw.same rfl hv (h.2.1 q hq r hr), va_AO.moved (hv ▸ Vm.Alike.refl s.vm) h.2.2⟩
theorem z_Z.moved {S : zS} {t0 t1 : Nat} {A : Nat → Prop} {u U : State} {H : Heap} (hvm : u.vm.Alike U.vm) (h : z_Z S t0 t1 A u H) : z_Z S t0 t1 A U H := ⟨h.1.moved hvm, h.2.1.moved hvm, h.2.2.moved hvm⟩
theorem z_Z.narrow {S : zS} {t0 t1 : Nat} {A B : Nat → Prop} {U : State} {H : Heap} (h : z_Z S t0 t1 A U H) (hAB : ∀ q, B q → A q) : z_Z S t0 t1 B U H := ⟨h.1.narrow hAB, h.2.1.narrow hAB, h.2.2.narrow hAB⟩
theorem z_Z.kept {S : zS} {t0 t1 : Nat} {A : Nat → Prop} {U : State} {H H1 : Heap} (h : z_Z S t0 t1 A U H) (hq : ∀ a : Nat, a < H.size → ¬ A a → H1[a]? = H[a]?) : z_Z S t0 t1 A U H1 := ⟨h.1.kept hq, h.2.1.kept hq, h.2.2.kept hq⟩
def z_Pc (D : va_G) (dA : Nat → ClassId) (S : zS) (ad : Nat → Nat) (sz : Nat) (As : List Value) (h : zH) : Array Value → State → Prop := va_Pc (As.map (z_tv ad)) (fun U => U.heap.size = sz ∧ va_P D z_cls (z_tw dA ad h) U.heap ∧ va_D (fun _ => True) (z_tw dA ad h) ∧ z_K D dA U ∧ z_Z S (ad 2000) (ad 2001) (va_A (z_tw dA ad h) sz) U U.heap)
def z_Po (D : va_G) (dA : Nat → ClassId) (ad : Nat → Nat) (sz : Nat) (h : zH) (mc : Nat) (v : Option Value) (h' : zH) (w : Option Value) (H : Heap) : Prop := ∃ ad' : Nat → Nat, w = v.map (z_tv ad') ∧ (∀ r, z_okr h r = true → ad' r = ad r) ∧ (mc = 0 → ad' = ad) ∧ (h.1.length ≤ h'.1.length ∧ h.2.length ≤ h'.2.length) ∧ va_P D z_cls (z_tw dA ad' h') H ∧ va_D (va_A (z_tw dA ad h) sz) (z_tw dA ad' h')
def z_Qc (D : va_G) (dA : Nat → ClassId) (ad : Nat → Nat) (sz : Nat) (h : zH) (mc : Nat) (v : Option Value) (h' : zH) : Array Value → State → Outcome → State → Prop := fun _ st oc t => (∃ w, oc = .returned w ∧ z_Po D dA ad sz h mc v h' w t.heap) ∧ va_F (va_A (z_tw dA ad h) sz) st t
def z_Met (l : Launch) (D : va_G) (dA : Nat → ClassId) (S : zS) (d mc ms M : Nat) (As : List Value) (h : zH) (v : Option Value) (h' : zH) : Prop := ∀ r, z_my[M]? = some r → ¬ r.1 = 8 → ∀ (ad : Nat → Nat) (sz : Nat), Met l r.2.1 (Jvm.Cond.code r.2.1 r.2.2.1 r.2.2.2.1 r.2.2.2.2 :: z_ws) ({ frames := d, cells := mc, slots := ms, locals := 36 * d }) (z_Pc D dA S ad sz As h) (z_Qc D dA ad sz h mc v h') mc ms (va_A (z_tw dA ad h) sz)
theorem z_blind {D : va_G} {dA : Nat → ClassId} {S : zS} {ad : Nat → Nat} {sz : Nat} {As : List Value} {h : zH} : FrameBlind (z_Pc D dA S ad sz As h) := by
  intro a U g mk hq
  obtain ⟨e, h1, h2, h3, h4, h5⟩ := hq
  exact ⟨e, h1, h2, h3, z_K.same rfl h4, h5.moved (Vm.Alike.refl U.vm)⟩
section ZS
variable {p : Program} {l : Launch} {e : Env} {R : Room} {s : State} {m : MethodId} {args : Array Value} {below : List Frame} {meth : Method} {c : Code} {Q : State → Prop}
/-- behind a call -/
theorem z_wcall {H : Heap} {locs : List Loc} {cells slots mc' ms' pc : Nat} {ls : Array Slot} {st0 rest : List Value} {A0 A1 : Nat → Prop} {free : Addr → Prop} {Post : Option Value → Heap → Prop}
    (hr : va_Run p l e R s m args below meth c H locs cells slots mc' ms' (F0 m pc ls st0) rest (fun st oc t => (∃ w, oc = .returned w ∧ Post w t.heap) ∧ va_F A1 st t) free) (hS : va_S A0 s.heap H locs) (hA : ∀ q, q < H.size → A1 q → A0 q) (hf : ∀ q, free q → A0 q)
    (kk : ∀ (w : Option Value) (H1 : Heap) (locs1 : List Loc), Post w H1 → va_S A0 s.heap H1 locs1 → W p l e R s m args below meth c H1 locs1 (cells + mc') (slots + ms') Q (F0 m (pc + 3) ls (w.toList ++ rest))) : W p l e R s m args below meth c H locs cells slots Q (F0 m pc ls st0) := by
  intro T hT X
  obtain ⟨v, st₀, t, T', L, h0, X', hL, e1, e2, ⟨⟨w, hv, hb⟩, hz, hk⟩, st⟩ := hr T hT X
  cases hv
  rw [h0] at hz hk
  obtain ⟨t2, a1, b1⟩ := kk v T'.heap (locs ++ L) (by rw [e1]; exact hb)
    ⟨Nat.le_trans hS.1 (by rw [e1]; exact hz), fun q h1 h2 => by rw [e1, hk q (Nat.lt_of_lt_of_le h1 hS.1) (fun z => h2 (hA q (Nat.lt_of_lt_of_le h1 hS.1) z))]; exact hS.2.1 q h1 h2, fun q hq => by
      rcases List.mem_append.mp hq with h | h
      · exact hS.2.2 q h
      · exact hf _ (hL q h)⟩ T' rfl X'
  exact ⟨t2, st t2 a1, b1⟩
/-- how the machine stands to the small one -/
def z_rel (D : va_G) (dA : Nat → ClassId) (A : Nat → Prop) (s : State) (h0 : zH) (ad0 : Nat → Nat) (ml : Nat) (ls : zL) (h : zH) (k : Nat) (ad : Nat → Nat) (H : Heap) (locs : List Loc) (lsC : Array Slot) : Prop :=
  (∀ r, z_okr h0 r = true → ad r = ad0 r) ∧ (k = 0 → ad = ad0) ∧ (h0.1.length ≤ h.1.length ∧ h0.2.length ≤ h.2.length) ∧ va_P D z_cls (z_tw dA ad h) H ∧ va_D A (z_tw dA ad h) ∧ va_S A s.heap H locs ∧ z_lr ad ml ls lsC
def z_XW (p : Program) (l : Launch) (e : Env) (R : Room) (s : State) (m : MethodId) (args : Array Value) (below : List Frame) (meth : Method) (c : Code) (Q : State → Prop) (D : va_G) (dA : Nat → ClassId) (A : Nat → Prop) (h0 : zH) (ad0 : Nat → Nat) (mc ms ml : Nat) : zX := fun pc ls st h k n =>
  k ≤ mc → n ≤ ms → ∀ (ad : Nat → Nat) (H : Heap) (locs : List Loc) (lsC : Array Slot), z_rel D dA A s h0 ad0 ml ls h k ad H locs lsC → W p l e R s m args below meth c H locs k n Q (F0 m pc lsC (st.map (z_tv ad)))
/-! shapes -/
theorem z_k1_of {st : List Value} {P : Int32 → List Value → Prop} (h : z_k1 st P) : ∃ v r, st = .int v :: r ∧ P v r := by
  unfold z_k1 at h; split at h
  · exact ⟨_, _, rfl, h⟩
  · exact h.elim
theorem z_k2_of {st : List Value} {P : Int32 → Int32 → List Value → Prop} (h : z_k2 st P) : ∃ v w r, st = .int w :: .int v :: r ∧ P v w r := by
  unfold z_k2 at h; split at h
  · exact ⟨_, _, _, rfl, h⟩
  · exact h.elim
theorem z_kll_of {st : List Value} {P : Int64 → Int64 → List Value → Prop} (h : z_kll st P) : ∃ v w r, st = .long w :: .long v :: r ∧ P v w r := by
  unfold z_kll at h; split at h
  · exact ⟨_, _, _, rfl, h⟩
  · exact h.elim
theorem z_kr_of {st : List Value} {P : Nat → List Value → Prop} (h : z_kr st P) : ∃ v r, st = .ref v :: r ∧ P v r := by
  unfold z_kr at h; split at h
  · exact ⟨_, _, rfl, h⟩
  · exact h.elim
theorem z_kir_of {st : List Value} {P : Int32 → Nat → List Value → Prop} (h : z_kir st P) : ∃ v w r, st = .int v :: .ref w :: r ∧ P v w r := by
  unfold z_kir at h; split at h
  · exact ⟨_, _, _, rfl, h⟩
  · exact h.elim
theorem z_kiir_of {st : List Value} {P : Int32 → Int32 → Nat → List Value → Prop} (h : z_kiir st P) : ∃ v j q r, st = .int v :: .int j :: .ref q :: r ∧ P v j q r := by
  unfold z_kiir at h; split at h
  · exact ⟨_, _, _, _, rfl, h⟩
  · exact h.elim
theorem z_krir_of {st : List Value} {P : Nat → Int32 → Nat → List Value → Prop} (h : z_krir st P) : ∃ v j q r, st = .ref v :: .int j :: .ref q :: r ∧ P v j q r := by
  unfold z_krir at h; split at h
  · exact ⟨_, _, _, _, rfl, h⟩
  · exact h.elim
theorem z_kvr_of {st : List Value} {P : Value → Nat → List Value → Prop} (h : z_kvr st P) : ∃ v q r, st = v :: .ref q :: r ∧ P v q r := by
  unfold z_kvr at h; split at h
  · exact ⟨_, _, _, rfl, h⟩
  · exact h.elim
theorem z_kd1_of {st : List Value} {P : Value → List Value → Prop} (h : z_kd1 st P) : ∃ v r, st = v :: r ∧ v.category = 1 ∧ P v r := by
  unfold z_kd1 at h; split at h
  · exact ⟨_, _, rfl, rfl, h⟩
  · exact ⟨_, _, rfl, rfl, h⟩
  · exact h.elim
theorem z_li_of {ls : zL} {a : Nat} {P : Int32 → Prop} (h : z_li ls a P) : ∃ v, ls[a]? = some (some (.int v)) ∧ P v := by
  unfold z_li at h; split at h
  · exact ⟨_, ‹_›, h⟩
  · exact h.elim
theorem z_la_of {ls : zL} {a : Nat} {P : Nat → Prop} (h : z_la ls a P) : ∃ v, ls[a]? = some (some (.ref v)) ∧ P v := by
  unfold z_la at h; split at h
  · exact ⟨_, ‹_›, h⟩
  · exact h.elim
theorem z_ll_of {ls : zL} {a : Nat} {P : Int64 → Prop} (h : z_ll ls a P) : ∃ v, ls[a]? = some (some (.long v)) ∧ P v := by
  unfold z_ll at h; split at h
  · exact ⟨_, ‹_›, h⟩
  · exact h.elim
theorem z_if_of {b : Bool} {P : Prop} (h : z_if b P) : b = true ∧ P := by
  unfold z_if at h; split at h
  · exact ⟨rfl, h⟩
  · exact h.elim
theorem z_hi_of {h : zH} {q t : Nat} {P : Nat → (Nat → Int32) → Prop} (hh : z_hi h q t P) : ∃ m f, z_get h q = some (.inl (t, m, f)) ∧ P m f := by
  unfold z_hi at hh; split at hh
  · obtain ⟨h1, h2⟩ := z_if_of hh
    have := Nat.eq_of_beq_eq_true h1
    subst this
    exact ⟨_, _, ‹_›, h2⟩
  · exact hh.elim
theorem z_hr_of {h : zH} {q : Nat} {P : List (Option Nat) → Prop} (hh : z_hr h q P) : ∃ f, z_get h q = some (.inr (.inl f)) ∧ P f := by
  unfold z_hr at hh; split at hh
  · exact ⟨_, ‹_›, hh⟩
  · exact hh.elim
theorem z_ho_of {h : zH} {q t : Nat} {P : List Value → Prop} (hh : z_ho h q t P) : ∃ f, z_get h q = some (.inr (.inr (t, f))) ∧ P f := by
  unfold z_ho at hh; split at hh
  · obtain ⟨h1, h2⟩ := z_if_of hh
    have := Nat.eq_of_beq_eq_true h1
    subst this
    exact ⟨_, ‹_›, h2⟩
  · exact hh.elim
theorem z_fd_of {fs : List Value} {b : Nat} {P : Value → Prop} (h : z_fd fs b P) : ∃ v, fs[b]? = some v ∧ P v := by
  unfold z_fd at h; split at h
  · exact ⟨_, ‹_›, h⟩
  · exact h.elim
theorem z_ret_of {st : List Value} {P : Value → Prop} (h : z_ret st P) : ∃ v, st = [v] ∧ P v := by
  unfold z_ret at h; split at h
  · exact ⟨_, rfl, h⟩
  · exact h.elim
theorem z_rel.lr {D : va_G} {dA : Nat → ClassId} {A : Nat → Prop} {s : State} {h0 : zH} {ad0 : Nat → Nat} {ml : Nat} {ls : zL} {h : zH} {k : Nat} {ad : Nat → Nat} {H : Heap} {locs : List Loc} {lsC : Array Slot} (hR : z_rel D dA A s h0 ad0 ml ls h k ad H locs lsC) : z_lr ad ml ls lsC := hR.2.2.2.2.2.2
theorem z_rel.setl {D : va_G} {dA : Nat → ClassId} {A : Nat → Prop} {s : State} {h0 : zH} {ad0 : Nat → Nat} {ml : Nat} {ls ls' : zL} {h : zH} {k : Nat} {ad : Nat → Nat} {H : Heap} {locs : List Loc} {lsC lsC' : Array Slot} (hR : z_rel D dA A s h0 ad0 ml ls h k ad H locs lsC) (hl : z_lr ad ml ls' lsC') : z_rel D dA A s h0 ad0 ml ls' h k ad H locs lsC' :=
  ⟨hR.1, hR.2.1, hR.2.2.1, hR.2.2.2.1, hR.2.2.2.2.1, hR.2.2.2.2.2.1, hl⟩
theorem z_rel.seth {D : va_G} {dA : Nat → ClassId} {A : Nat → Prop} {s : State} {h0 : zH} {ad0 : Nat → Nat} {ml : Nat} {ls : zL} {h : zH} {k : Nat} {ad : Nat → Nat} {H H1 : Heap} {locs locs1 : List Loc} {lsC : Array Slot} (hR : z_rel D dA A s h0 ad0 ml ls h k ad H locs lsC) {q : Nat} {c0 c1 : zC} (hg : z_get h q = some c0) (hP : va_P D z_cls ((z_tw dA ad h).set (z_pos h q) (ad q, z_te dA ad c1)) H1) (hD : va_D A ((z_tw dA ad h).set (z_pos h q) (ad q, z_te dA ad c1))) (hS : va_S A s.heap H1 locs1) : z_rel D dA A s h0 ad0 ml ls (z_set h q c1) k ad H1 locs1 lsC := by
  rw [z_set_tw dA ad c1 hg] at hP hD
  exact ⟨hR.1, hR.2.1, by rw [z_set_len1, z_set_len2]; exact hR.2.2.1, hP, hD, hS, hR.lr⟩
end ZS
