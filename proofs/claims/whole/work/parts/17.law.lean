theorem z_subW : ∀ w ∈ z_ws, w ∈ lw_tbl := fun w h => (List.mem_filter.mp h).1
theorem z_inT {w : Jvm.Cond} (h : w ∈ tables_1) : w ∈ lw_tbl := List.mem_append_right _ h
theorem f_inst : (z_cls.all fun r => decide (Jvm.Cond.instantiable r.1 r.2.2 ∈ tables_1)) = true := by decide +kernel
theorem f_ao : Jvm.Cond.arrayOver (.object RX2) ∈ tables_1 ∧ Jvm.Cond.laysStatic "InsultStatues" "FACTORIAL" "[I" ∈ tables_1 ∧ Jvm.Cond.initialized "InsultStatues" ∈ tables_1 := by decide +kernel
set_option maxHeartbeats 4000000 in
/-- the classes' numbers and slots, the array classes -/
theorem z_K0 {s : State} {args : Array Value} (hts : ∀ w ∈ lw_tbl, w.before args s = true) : ∃ (D : va_G) (dA : Nat → ClassId), z_K D dA s := by
  have hk : ∀ (a : Nat) (r : vw_C), z_cls[a]? = some r → ∃ (cC : ClassId) (iS : Nat → Nat), u_Kn s r.1 r.2.1 r.2.2 cC iS := fun a r h => by
    have h1 := of_decide_eq_true (List.all_eq_true.mp f_inst r (List.mem_of_getElem? h))
    exact u_known (C := r.1) (T := r.2.1) (N := r.2.2) (n := r.2.2) hts (fun w hw => z_subW w ((z_clsP h).2.2.1 w hw)) (hts _ (z_inT h1))
  obtain ⟨c0, i0, k0⟩ := hk 0 _ rfl
  obtain ⟨c1, i1, k1⟩ := hk 1 _ rfl
  obtain ⟨c2, i2, k2⟩ := hk 2 _ rfl
  obtain ⟨c3, i3, k3⟩ := hk 3 _ rfl
  obtain ⟨c4, i4, k4⟩ := hk 4 _ rfl
  obtain ⟨c5, i5, k5⟩ := hk 5 _ rfl
  obtain ⟨a0, ka0, ca0, f1, f2, f3⟩ := Cond.arrayClass_spec (hts _ (z_inT f_arr.1))
  obtain ⟨a1, ka1, ca1, g1, g2, g3⟩ := Cond.arrayClass_spec (hts _ (z_inT f_arr.2.1))
  obtain ⟨ca2, a2, ka2, h1, h2, h3, h4, h5⟩ := Cond.arrayOver_spec (hts _ (z_inT f_ao.1))
  refine ⟨(fun k => match k with | 0 => c0 | 1 => c1 | 2 => c2 | 3 => c3 | 4 => c4 | _ => c5, fun k => match k with | 0 => i0 | 1 => i1 | 2 => i2 | 3 => i3 | 4 => i4 | _ => i5), fun k => match k with | 0 => a0 | 1 => a1 | _ => a2, ⟨fun k q hq => ?_, fun k q hq => ?_⟩, fun q hq r hr => ?_, va_AO.of (hts _ (z_inT f_ao.1))⟩
  · match k, hq with
    | 0, hq => cases hq; exact k0
    | 1, hq => cases hq; exact k1
    | 2, hq => cases hq; exact k2
    | 3, hq => cases hq; exact k3
    | 4, hq => cases hq; exact k4
    | 5, hq => cases hq; exact k5
    | k + 6, hq => simp [z_cls] at hq
  · match k, hq with
    | 0, hq => cases hq; exact ⟨fun n z => ⟨(fun k h => by cases h), ka0, f2, ca0, f3⟩, f1⟩
    | 1, hq => cases hq; exact ⟨fun n z => ⟨(fun k h => by cases h), ka1, g2, ca1, g3⟩, g1⟩
    | 2, hq => cases hq; exact ⟨fun n z => ⟨(fun k h => by cases h), ka2, h3, ca2, h4⟩, ka2, ca2, h3, h4, h1, h5⟩
    | k + 3, hq => simp [z_tys] at hq
  · have h9 := List.all_eq_true.mp f_nl q hq
    rw [hr] at h9
    exact va_Nw.of rfl (hts _ (z_inT (of_decide_eq_true h9)))
set_option maxHeartbeats 4000000 in
theorem z_Z0 {s : State} {b L : Nat} {xs : Nat → Int32} (hL : L ≤ 2048) (hts : ∀ w ∈ lw_tbl, w.before #[Value.ref b] s = true) (hX : va_X b L xs s s.heap) (hbl : b < s.heap.size) (hgv : (Jvm.Cond.and given_1 narrow_1).before #[Value.ref b] s = true) : ∃ t0 : Nat, z_Z (L, xs) t0 b (fun q => s.heap.size ≤ q) s s.heap := by
  have hs := flat_of_before _ hgv
  have harr : (Jvm.Cond.arrayOf (.static "InsultStatues" "FACTORIAL" "[I") .int).before #[Value.ref b] s = true := hs _ (by decide +kernel)
  have hlen := va_eqt (hs (Jvm.Cond.eq (.length (.static "InsultStatues" "FACTORIAL" "[I")) (.int 7)) (by decide +kernel))
  have hA : ∀ a : Nat, a < s.heap.size → ¬ (fun q : Nat => s.heap.size ≤ q) a := fun a h => Nat.not_le.mpr h
  have e0 := va_eqt (hs (Jvm.Cond.eq (.elem (.static "InsultStatues" "FACTORIAL" "[I") (.int 0)) (.int 1)) (by decide +kernel))
  have e1 := va_eqt (hs (Jvm.Cond.eq (.elem (.static "InsultStatues" "FACTORIAL" "[I") (.int 1)) (.int 1)) (by decide +kernel))
  have e2 := va_eqt (hs (Jvm.Cond.eq (.elem (.static "InsultStatues" "FACTORIAL" "[I") (.int 2)) (.int 2)) (by decide +kernel))
  have e3 := va_eqt (hs (Jvm.Cond.eq (.elem (.static "InsultStatues" "FACTORIAL" "[I") (.int 3)) (.int 6)) (by decide +kernel))
  have e4 := va_eqt (hs (Jvm.Cond.eq (.elem (.static "InsultStatues" "FACTORIAL" "[I") (.int 4)) (.int 24)) (by decide +kernel))
  have e5 := va_eqt (hs (Jvm.Cond.eq (.elem (.static "InsultStatues" "FACTORIAL" "[I") (.int 5)) (.int 120)) (by decide +kernel))
  have e6 := va_eqt (hs (Jvm.Cond.eq (.elem (.static "InsultStatues" "FACTORIAL" "[I") (.int 6)) (.int 720)) (by decide +kernel))
  obtain ⟨t0, ht0, hT0⟩ := va_Tof (N := 7) (f := fun j => .int (z_fac j)) (A := fun q => s.heap.size ≤ q) (by decide) harr hlen (fun j hj => by
    match j, hj with
    | 0, _ => exact e0
    | 1, _ => exact e1
    | 2, _ => exact e2
    | 3, _ => exact e3
    | 4, _ => exact e4
    | 5, _ => exact e5
    | 6, _ => exact e6
    | k + 7, h => omega) hA
  refine ⟨t0, va_Zref (hts _ (z_inT f_ao.2.1)) (hts _ (z_inT f_ao.2.2)) ht0 hA, hT0, ?_⟩
  obtain ⟨scr, h1, h2, h3, h4, h5⟩ := hX
  exact ⟨scr, h1, h2, h3, Nat.le_of_eq h4.symm, by rw [h4], h5, hA b hbl⟩
set_option maxHeartbeats 4000000 in
/-- the law's run in the small machine is its run -/
theorem z_lawW {p : Program} {e : Env} {s : State} {m : MethodId} {below : List Frame} {meth : Method} {c : Code} (l : Launch) {b L : Nat} {xs : Nat → Int32} (hL : L ≤ 2048) (C0 : lw_At p s m meth c b L xs)
    (hrun : ∀ X : zX, z_cl (L, xs) (Ex (L, xs) 9) tL_law true 600000 7302250 (fun v _ => v = some (.int 1)) X → X 0 (z_ent 4 [.ref 2001]) [] ([], []) 0 0) : W p l e room_1 s m #[Value.ref b] below meth c s.heap [] 0 0 (lw_Z below #[Value.ref b] s) (entryFrame m ([Value.ref b] : List Value).toArray 4) := by
  obtain ⟨hx, hb, hr, hml, hown, hts, hX, hbl, hlocks, hgv⟩ := C0
  obtain ⟨D, dA, hK⟩ := z_K0 hts
  obtain ⟨t0, hZ⟩ := z_Z0 hL hts hX hbl hgv
  obtain ⟨rb, T, hinf, hrb, hT⟩ := z_chkM_of (M := 154) (r := (8, yL_law, cL_law, 4, some .boolean)) rfl (z_allM 154 _ rfl)
  have hinf2 : (4, true, tL_law) = (4, rb, T) := hinf
  obtain ⟨rfl, rfl⟩ : true = rb ∧ tL_law = T := by
    have h1 := congrArg (fun q : Nat × Bool × List (List (Option zR)) => q.2.1) hinf2
    have h2 := congrArg (fun q : Nat × Bool × List (List (Option zR)) => q.2.2) hinf2
    exact ⟨h1, h2⟩
  have hA : ∀ q : Nat, s.heap.size ≤ q → (fun q : Nat => s.heap.size ≤ q) q := fun _ h => h
  have ctx : z_ctx p room_1 s m #[Value.ref b] meth c D dA (fun q : Nat => s.heap.size ≤ q) (L, xs) (fun k => if k = 2000 then t0 else if k = 2001 then b else 0) 8 4 9 600000 7302250 code (decide (yL_law.name = "<init>")) lw_tbl :=
    ⟨hx, hb, hml, hown, hts, z_subW, hK, hZ, hA, fun h9 => absurd (of_decide_eq_true h9) (by decide +kernel), Nat.le_refl _, Nat.le_refl _, Nat.le_of_ble_eq_true rfl, Nat.le_of_ble_eq_true rfl⟩
  have hcl := z_close (l := l) (e := e) (below := below) (Q := lw_Z below #[Value.ref b] s) (h0 := ([], [])) (T := tL_law) (rb := true) (Rt := fun v' _ => v' = some (.int 1)) ctx (fun pc i nx a b cd x y sw hat => (hT pc i nx a b cd x y sw hat).1) (fun mc' ms' M' As' g v' g' hE' => z_sound z_allM 9 mc' ms' M' As' g v' g' hE') ?_
  · have hX := hrun _ hcl (Nat.zero_le _) (Nat.zero_le _) (fun k => if k = 2000 then t0 else if k = 2001 then b else 0) s.heap [] _ ⟨fun _ _ => rfl, fun _ => rfl, ⟨Nat.le_refl _, Nat.le_refl _⟩, fun k q h => by simp [z_tw, z_tl] at h, ⟨fun i j p q h => by simp [z_tw, z_tl] at h, fun k q h => by simp [z_tw, z_tl] at h⟩, va_S.rf, z_ent_lr _ rfl⟩
    rw [lg_entry_eq]
    exact hX
  · intro pc i nx a b' cd x y sw ls g k n ad' H locs lsC w hat hrok hRt hk hn hR
    subst hRt
    obtain ⟨⟨hdec, hchk⟩, hcrt⟩ := hT pc i nx a b' cd x y sw hat
    refine va_forget (fun q hq => hR.2.2.2.2.2.1.2.2 q hq) ?_
    refine W.widen (k := 600000) (n := 7302250) hk hn ?_
    unfold z_rok at hrok
    split at hrok
    · rename_i heq
      cases heq
      have hnx : nx = pc + 1 := of_decide_eq_true hchk
      exact lw_ret hx hb hr hlocks (z_len hdec hnx)
    all_goals (first | exact hrok.elim | (rename_i heq; cases heq))
