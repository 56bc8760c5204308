theorem z_at_lt {T : List (List (Option zR))} {pc : Nat} {r : zR} (h : z_at T pc = some r) : pc < 16 * T.length := by
  unfold z_at at h
  split at h
  · rename_i l hl
    have := (List.getElem?_eq_some_iff.mp hl).1
    omega
  · cases h
theorem z_chkM_of {M : Nat} {r : Nat × MethodName × ByteArray × Nat × Option FieldType} (hr : z_my[M]? = some r) (hc : z_chkM M = true) : ∃ (rb : Bool) (T : List (List (Option zR))), z_inf M = (r.2.2.2.1, rb, T) ∧ (rb = decide (r.2.2.2.2 = some .boolean)) ∧ ∀ (pc : Nat) (i : Instr) (nx a b cd : Nat) (x : Int32) (y : Int64) (sw : List (Int32 × Nat)), z_at T pc = some (i, nx, a, b, cd, x, y, sw) → (decode r.2.2.1 pc = .ok (i, nx - pc) ∧ z_chk r.1 r.2.2.2.1 (decide (r.2.1.name = "<init>")) pc i nx a b cd x y sw = true) ∧ z_crt r.2.2.2.2 i = true := by
  unfold z_chkM at hc
  rw [hr] at hc
  obtain ⟨own, y0, cc, ml, ret⟩ := r
  cases ht : z_tab[M]? with
  | none => rw [ht] at hc; exact absurd hc Bool.false_ne_true
  | some q =>
    obtain ⟨ml', rb, T⟩ := q
    rw [ht] at hc
    dsimp only at hc
    simp only [Bool.and_eq_true, decide_eq_true_eq] at hc
    obtain ⟨⟨h1, h2⟩, h3⟩ := hc
    subst h1
    refine ⟨rb, T, by unfold z_inf; rw [ht], h2, fun pc i nx a b cd x y sw hat => ?_⟩
    have h4 := List.all_eq_true.mp h3 pc (List.mem_range.mpr (z_at_lt hat))
    rw [hat] at h4
    dsimp only at h4
    simp only [Bool.and_eq_true, decide_eq_true_eq] at h4
    exact ⟨⟨h4.1.1, h4.2⟩, h4.1.2⟩
def z_slot (ad : Nat → Nat) (o : Option Value) : Slot := match o with
  | some v => .val (z_tv ad v)
  | none => .second
theorem z_ent1_sl (ad : Nat → Nat) : ∀ As : List Value, lg_sl (As.map (z_tv ad)) = (z_ent1 As).map (z_slot ad)
  | [] => rfl
  | v :: r => by
    have h1 : lg_sl ((v :: r).map (z_tv ad)) = (if (z_tv ad v).category = 2 then [Slot.val (z_tv ad v), .second] else [.val (z_tv ad v)]) ++ lg_sl (r.map (z_tv ad)) := rfl
    have h2 : z_ent1 (v :: r) = z_ent1 [v] ++ z_ent1 r := by simp [z_ent1]
    rw [h1, z_ent1_sl ad r, h2, List.map_append]
    congr 1
    cases v <;> rfl
theorem z_ent_lr (ad : Nat → Nat) {ml : Nat} {As : List Value} (hl : Nat.ble (z_ent1 As).length ml = true) : z_lr ad ml (z_ent ml As) ((lg_sl (As.map (z_tv ad)) ++ List.replicate (ml - (lg_sl (As.map (z_tv ad))).length) Slot.unset).toArray) := by
  have hl := Nat.le_of_ble_eq_true hl
  have hlen : (lg_sl (As.map (z_tv ad))).length = (z_ent1 As).length := by rw [z_ent1_sl, List.length_map]
  have he := lv_entry (As.map (z_tv ad)) (n := ml) (by omega)
  refine ⟨by unfold z_ent; rw [List.length_append, List.length_replicate]; omega, ⟨he.1, he.2.1, fun q hq => by simp at hq⟩, fun i v hi => ?_⟩
  unfold z_ent at hi
  have hil : i < (z_ent1 As).length := by
    rcases Nat.lt_or_ge i (z_ent1 As).length with h | h
    · exact h
    · rw [List.getElem?_append_right h, List.getElem?_replicate] at hi
      split at hi <;> cases hi
  rw [List.getElem?_append_left hil] at hi
  rw [List.getElem?_toArray, List.getElem?_append_left (by omega), z_ent1_sl, List.getElem?_map, hi]
  rfl
set_option maxHeartbeats 4000000 in
theorem z_sound {l : Launch} {D : va_G} {dA : Nat → ClassId} {S : zS} (hAll : ∀ (M : Nat) (r : Nat × MethodName × ByteArray × Nat × Option FieldType), z_my[M]? = some r → z_chkM M = true) : ∀ (d mc ms M : Nat) (As : List Value) (h : zH) (v : Option Value) (h' : zH), Ex S d mc ms M As h v h' → z_Met l D dA S d mc ms M As h v h' := by
  intro d
  induction d with
  | zero => intro mc ms M As h v h' hE; exact hE.elim
  | succ d ih =>
    intro mc ms M As h v h' hE r hr h8 ad sz
    obtain ⟨y1, y2, y3, y4, y5, y6⟩ := z_myP hr h8
    obtain ⟨rb, T, hinf, hrb, hT⟩ := z_chkM_of hr (hAll M r hr)
    have hEl : Nat.ble (z_ent1 As).length r.2.2.2.1 = true := by have := hE.1; rw [hinf] at this; exact this
    have hE2 := hE.2
    rw [hinf] at hE2
    dsimp only at hE2
    refine va_MetF (cc := r.2.2.1) (maxL := r.2.2.2.1) (ret := r.2.2.2.2) y4 rfl ?_
    intro p e s m args below meth c s₁ B hml hv
    obtain ⟨rfl, hsz, hP, hD0, hK, hZ⟩ := hv
    have hx := B.exec
    have hb := B.bytes
    have hr1 := B.returns
    have hts := atoms_spec (ws := Jvm.Cond.code r.2.1 r.2.2.1 r.2.2.2.1 r.2.2.2.2 :: z_ws) B.pre
    have hown : s.vm.findClass (z_cn r.1) = some m.cls := by rw [y1]; exact findClass_of_methodNamed B.named
    have hlocks := B.notSynchronized
    have hin : meth.name = r.2.1.name := (name_of_methodNamed B.named B.method).1
    subst hsz
    have hD := hD0.self (sz := s.heap.size)
    have hA : ∀ q : Nat, s.heap.size ≤ q → va_A (z_tw dA ad h) s.heap.size q := fun q h => Or.inr h
    have ctx : z_ctx p ({ frames := d + 1, cells := mc, slots := ms, locals := 36 * (d + 1) }) s m (As.map (z_tv ad)).toArray meth c D dA (va_A (z_tw dA ad h) s.heap.size) S ad r.1 r.2.2.2.1 d mc ms r.2.2.1 (decide (r.2.1.name = "<init>")) (Jvm.Cond.code r.2.1 r.2.2.1 r.2.2.2.1 r.2.2.2.2 :: z_ws) :=
      ⟨hx, hb, hml, hown, hts, fun w hw => List.mem_cons_of_mem _ hw, hK, hZ, hA, fun h9 => by rw [hin]; exact of_decide_eq_true h9, Nat.le_refl _, Nat.le_refl _, Nat.le_refl _, Nat.le_refl _⟩
    have hcl := z_close (l := l) (e := e) (below := below) (Q := MQ below (z_Qc D dA ad s.heap.size h mc v h') (As.map (z_tv ad)).toArray s mc ms (va_A (z_tw dA ad h) s.heap.size)) (h0 := h) (T := T) (rb := rb) (Rt := fun v' g' => v' = v ∧ g' = h') ctx (fun pc i nx a b cd x y sw hat => (hT pc i nx a b cd x y sw hat).1) (fun mc' ms' M' As' g v' g' hE' => ih mc' ms' M' As' g v' g' hE') ?_
    · have hX := hE2 _ hcl (Nat.zero_le _) (Nat.zero_le _) ad s.heap [] _ ⟨fun _ _ => rfl, fun _ => rfl, ⟨Nat.le_refl _, Nat.le_refl _⟩, hP, hD, va_S.rf, z_ent_lr ad hEl⟩
      rw [lg_entry_eq]
      exact hX
    · intro pc i nx a b cd x y sw ls g k n ad' H locs lsC w hat hrok hRt hk hn hR
      obtain ⟨rfl, rfl⟩ := hRt
      obtain ⟨⟨hdec, hchk⟩, hcrt⟩ := hT pc i nx a b cd x y sw hat
      have hq : ∀ t : State, t.heap = H → z_Qc D dA ad s.heap.size h mc w g (As.map (z_tv ad)).toArray s (.returned (w.map (z_tv ad'))) t := fun t ht =>
        ⟨⟨_, rfl, ad', rfl, hR.1, fun hz => hR.2.1 (by omega), hR.2.2.1, by rw [ht]; exact hR.2.2.2.1, hR.2.2.2.2.1⟩, hR.2.2.2.2.2.1.F ht⟩
      refine W.widen hk hn ?_
      unfold z_rok at hrok
      split at hrok
      · have hnx : nx = pc + 1 := of_decide_eq_true hchk
        simp only [z_crt, Bool.or_eq_true, decide_eq_true_eq] at hcrt
        rcases hcrt with hc | hc
        · exact W.iret hx hb (by rw [hr1]; exact hc) (fun t ht hW => hq t ht) hR.2.2.2.2.2.1.2.2 (z_len hdec hnx)
        · exact W.zret hx hb (by rw [hr1]; exact hc) (z_bool (hrok (by rw [hrb, hc]; rfl))).1 (fun t ht hW => hq t ht) hR.2.2.2.2.2.1.2.2 (z_len hdec hnx)
      · have hnx : nx = pc + 1 := of_decide_eq_true hchk
        exact W.lret hx hb (by rw [hr1]; exact of_decide_eq_true hcrt) (fun t ht hW => hq t ht) hR.2.2.2.2.2.1.2.2 (z_len hdec hnx)
      · have hnx : nx = pc + 1 := of_decide_eq_true hchk
        exact W.aret hx hb (by rw [hr1]; exact of_decide_eq_true hcrt) (Or.inl ⟨_, rfl⟩) (Or.inr ⟨_, rfl⟩) (fun t ht hW => hq t ht) hR.2.2.2.2.2.1.2.2 (z_len hdec hnx)
      · have hnx : nx = pc + 1 := of_decide_eq_true hchk
        exact W.vret hx hb (by rw [hr1]; exact of_decide_eq_true hcrt) (fun t ht hW => hq t ht) hR.2.2.2.2.2.1.2.2 (z_len hdec hnx)
      · exact hrok.elim
