theorem z_e_sp {S : zS} {C : zQ} {rb : Bool} {mc ms : Nat} {X : zX} {Rt : Option Value → zH → Prop} {v nx a b c : Nat} {x : Int32} {y : Int64} {sw : List (Int32 × Nat)} {ls : zL} {st : List Value} {h : zH} {k n : Nat} (hs : z_stp S C rb mc ms X Rt (.invokespecial v) nx a b c x y sw ls st h k n) : z_app b st fun As r => z_if (Nat.ble (z_cat r) 8) (z_sp a (z_ob As (X nx ls r h k n)) (z_if (z_isr As) (z_call C mc ms X a nx ls As r h k n))) := hs
theorem z_e_st {S : zS} {C : zQ} {rb : Bool} {mc ms : Nat} {X : zX} {Rt : Option Value → zH → Prop} {v nx a b c : Nat} {x : Int32} {y : Int64} {sw : List (Int32 × Nat)} {ls : zL} {st : List Value} {h : zH} {k n : Nat} (hs : z_stp S C rb mc ms X Rt (.invokestatic v) nx a b c x y sw ls st h k n) : z_app b st fun As r => z_if (Nat.ble (z_cat r) 8) (z_call C mc ms X a nx ls As r h k n) := hs
theorem z_e_vi {S : zS} {C : zQ} {rb : Bool} {mc ms : Nat} {X : zX} {Rt : Option Value → zH → Prop} {v nx a b c : Nat} {x : Int32} {y : Int64} {sw : List (Int32 × Nat)} {ls : zL} {st : List Value} {h : zH} {k n : Nat} (hs : z_stp S C rb mc ms X Rt (.invokevirtual v) nx a b c x y sw ls st h k n) : z_app b st fun As r => z_if (Nat.ble (z_cat r) 8) (z_if (z_rcv h c As) (z_call C mc ms X a nx ls As r h k n)) := hs
theorem z_e_ir {S : zS} {C : zQ} {rb : Bool} {mc ms : Nat} {X : zX} {Rt : Option Value → zH → Prop} {nx a b c : Nat} {x : Int32} {y : Int64} {sw : List (Int32 × Nat)} {ls : zL} {st : List Value} {h : zH} {k n : Nat} (hs : z_stp S C rb mc ms X Rt .ireturn nx a b c x y sw ls st h k n) : z_ret st fun v => z_ri rb v fun w => Rt w h := hs
theorem z_e_lr {S : zS} {C : zQ} {rb : Bool} {mc ms : Nat} {X : zX} {Rt : Option Value → zH → Prop} {nx a b c : Nat} {x : Int32} {y : Int64} {sw : List (Int32 × Nat)} {ls : zL} {st : List Value} {h : zH} {k n : Nat} (hs : z_stp S C rb mc ms X Rt .lreturn nx a b c x y sw ls st h k n) : z_ret st fun v => z_rl v fun w => Rt w h := hs
theorem z_e_ar {S : zS} {C : zQ} {rb : Bool} {mc ms : Nat} {X : zX} {Rt : Option Value → zH → Prop} {nx a b c : Nat} {x : Int32} {y : Int64} {sw : List (Int32 × Nat)} {ls : zL} {st : List Value} {h : zH} {k n : Nat} (hs : z_stp S C rb mc ms X Rt .areturn nx a b c x y sw ls st h k n) : z_ret st fun v => z_ra v fun w => Rt w h := hs
section ZT
variable {p : Program} {l : Launch} {e : Env} {R : Room} {s : State} {m : MethodId} {args : Array Value} {below : List Frame} {meth : Method} {c : Code} {Q : State → Prop}
def z_rok (i : Instr) (v : Option Value) (rb : Bool) : Prop := match i, v with
  | .ireturn, some (.int w) => rb = true → w = 0 ∨ w = 1
  | .lreturn, some (.long _) => True
  | .areturn, some (.ref _) => True
  | .return_, none => True
  | _, _ => False
set_option maxHeartbeats 8000000 in
set_option maxRecDepth 100000 in
theorem z_close {D : va_G} {dA : Nat → ClassId} {A : Nat → Prop} {S : zS} {ad0 : Nat → Nat} {own ml d mc ms : Nat} {cc : ByteArray} {ini : Bool} {Ts : List Jvm.Cond} {h0 : zH} {T : List (List (Option zR))} {rb : Bool} {Rt : Option Value → zH → Prop} (hx0 : z_ctx p R s m args meth c D dA A S ad0 own ml d mc ms cc ini Ts)
    (hT : ∀ (pc : Nat) (i : Instr) (nx a b cd : Nat) (x : Int32) (y : Int64) (sw : List (Int32 × Nat)), z_at T pc = some (i, nx, a, b, cd, x, y, sw) → decode cc pc = .ok (i, nx - pc) ∧ z_chk own ml ini pc i nx a b cd x y sw = true)
    (hC : ∀ (mc' ms' M : Nat) (As : List Value) (h : zH) (v : Option Value) (h' : zH), Ex S d mc' ms' M As h v h' → z_Met l D dA S d mc' ms' M As h v h')
    (hret : ∀ (pc : Nat) (i : Instr) (nx a b cd : Nat) (x : Int32) (y : Int64) (sw : List (Int32 × Nat)) (ls : zL) (h : zH) (k n : Nat) (ad : Nat → Nat) (H : Heap) (locs : List Loc) (lsC : Array Slot) (v : Option Value), z_at T pc = some (i, nx, a, b, cd, x, y, sw) → z_rok i v rb → Rt v h → k ≤ mc → n ≤ ms → z_rel D dA A s h0 ad0 ml ls h k ad H locs lsC → W p l e R s m args below meth c H locs k n Q (F0 m pc lsC ((v.map (z_tv ad)).toList))) :
    z_cl S (Ex S d) T rb mc ms Rt (z_XW p l e R s m args below meth c Q D dA A h0 ad0 mc ms ml) := by
  intro pc ls st h k n i nx a b cd x y sw hat hs hk hn ad H locs lsC hR
  obtain ⟨hx, hb, hml, hown, hts, hTs, hK, hZ, hA, hini, hRc, hRs, hRf, hRl⟩ := hx0
  obtain ⟨hdec, hchk⟩ := hT _ _ _ _ _ _ _ _ _ hat
  have hlr := hR.lr
  have hP := hR.2.2.2.1
  have hD := hR.2.2.2.2.1
  have hS := hR.2.2.2.2.2.1
  cases i
  case iconst v =>
    simp only [z_chk, Bool.and_eq_true, decide_eq_true_eq] at hchk
    obtain ⟨hnx, hv⟩ := hchk
    subst hnx
    exact lv_iconst hx hb (z_len hdec rfl) hv (hs hk hn ad H locs lsC hR)
  case bipush v =>
    simp only [z_chk, Bool.and_eq_true, decide_eq_true_eq] at hchk
    obtain ⟨hnx, hv⟩ := hchk
    subst hnx
    exact lv_bipush hx hb (z_len hdec rfl) hv (hs hk hn ad H locs lsC hR)
  case sipush v =>
    simp only [z_chk, Bool.and_eq_true, decide_eq_true_eq] at hchk
    obtain ⟨hnx, hv⟩ := hchk
    subst hnx
    exact lv_sipush hx hb (z_len hdec rfl) hv (hs hk hn ad H locs lsC hR)
  case lconst v =>
    simp only [z_chk, Bool.and_eq_true, decide_eq_true_eq] at hchk
    obtain ⟨hnx, hv⟩ := hchk
    subst hnx
    exact lv_lconst hx hb (z_len hdec rfl) hv (hs hk hn ad H locs lsC hR)
  case ldc v =>
    simp only [z_chk, Bool.and_eq_true, decide_eq_true_eq] at hchk
    obtain ⟨hnx, hv⟩ := hchk
    subst hnx
    have hw := of_decide_eq_true (List.all_eq_true.mp f_kc _ hv)
    exact lv_ldc hx hb hown (hts _ (hTs _ (z_inW hw rfl))) (z_len hdec rfl) (hs hk hn ad H locs lsC hR)
  case ldc_w v =>
    simp only [z_chk, Bool.and_eq_true, decide_eq_true_eq] at hchk
    obtain ⟨hnx, hv⟩ := hchk
    subst hnx
    have hw := of_decide_eq_true (List.all_eq_true.mp f_kc _ hv)
    exact lv_ldcw hx hb hown (hts _ (hTs _ (z_inW hw rfl))) (z_len hdec rfl) (hs hk hn ad H locs lsC hR)
  case ldc2_w v =>
    simp only [z_chk, Bool.and_eq_true, decide_eq_true_eq] at hchk
    obtain ⟨hnx, hv⟩ := hchk
    subst hnx
    have hw := of_decide_eq_true (List.all_eq_true.mp f_kl _ hv)
    exact lv_ldc2 hx hb hown (hts _ (hTs _ (z_inW hw rfl))) (z_len hdec rfl) (hs hk hn ad H locs lsC hR)
  case iload_n j =>
    simp only [z_chk, Bool.and_eq_true, decide_eq_true_eq] at hchk
    obtain ⟨hnx, hj⟩ := hchk
    subst hnx
    obtain ⟨v, hv, hs⟩ := z_li_of hs
    exact lv_iload_n hx hb (z_len hdec rfl) hj (hlr.2.2 a _ hv) (hs hk hn ad H locs lsC hR)
  case aload_n j =>
    simp only [z_chk, Bool.and_eq_true, decide_eq_true_eq] at hchk
    obtain ⟨hnx, hj⟩ := hchk
    subst hnx
    obtain ⟨v, hv, hs⟩ := z_la_of hs
    exact lv_aload_n hx hb (z_len hdec rfl) hj (hlr.2.2 a _ hv) (hs hk hn ad H locs lsC hR)
  case lload_n j =>
    simp only [z_chk, Bool.and_eq_true, decide_eq_true_eq] at hchk
    obtain ⟨hnx, hj⟩ := hchk
    subst hnx
    obtain ⟨v, hv, hs⟩ := z_ll_of hs
    exact lv_lload_n hx hb (z_len hdec rfl) hj (hlr.2.2 a _ hv) (hs hk hn ad H locs lsC hR)
  case iload j =>
    simp only [z_chk, Bool.and_eq_true, decide_eq_true_eq] at hchk
    obtain ⟨hnx, hj⟩ := hchk
    subst hnx
    subst hj
    obtain ⟨v, hv, hs⟩ := z_li_of hs
    exact lv_iload hx hb (z_len hdec rfl) (hlr.2.2 j _ hv) (hs hk hn ad H locs lsC hR)
  case aload j =>
    simp only [z_chk, Bool.and_eq_true, decide_eq_true_eq] at hchk
    obtain ⟨hnx, hj⟩ := hchk
    subst hnx
    subst hj
    obtain ⟨v, hv, hs⟩ := z_la_of hs
    exact lv_aload hx hb (z_len hdec rfl) (hlr.2.2 j _ hv) (hs hk hn ad H locs lsC hR)
  case lload j =>
    simp only [z_chk, Bool.and_eq_true, decide_eq_true_eq] at hchk
    obtain ⟨hnx, hj⟩ := hchk
    subst hnx
    subst hj
    obtain ⟨v, hv, hs⟩ := z_ll_of hs
    exact lv_lload hx hb (z_len hdec rfl) (hlr.2.2 j _ hv) (hs hk hn ad H locs lsC hR)
  case istore_n j =>
    simp only [z_chk, Bool.and_eq_true, decide_eq_true_eq] at hchk
    obtain ⟨⟨hnx, hj⟩, ham⟩ := hchk
    subst hnx
    obtain ⟨hno, hs⟩ := z_if_of hs
    obtain ⟨v, r, rfl, hs⟩ := z_k1_of hs
    exact lv_istore_n hx hb (z_len hdec rfl) hj (z_lr_has hlr) ham rfl (fun ls' hl' => hs hk hn ad H locs ls' (hR.setl (z_lr_set hlr (by simpa using hno) hl')))
  case astore_n j =>
    simp only [z_chk, Bool.and_eq_true, decide_eq_true_eq] at hchk
    obtain ⟨⟨hnx, hj⟩, ham⟩ := hchk
    subst hnx
    obtain ⟨hno, hs⟩ := z_if_of hs
    obtain ⟨v, r, rfl, hs⟩ := z_kr_of hs
    exact lv_astore_n hx hb (z_len hdec rfl) hj (z_lr_has hlr) ham rfl (fun ls' hl' => hs hk hn ad H locs ls' (hR.setl (z_lr_set hlr (by simpa using hno) hl')))
  case istore j =>
    simp only [z_chk, Bool.and_eq_true, decide_eq_true_eq] at hchk
    obtain ⟨⟨hnx, hj⟩, ham⟩ := hchk
    subst hnx
    subst hj
    obtain ⟨hno, hs⟩ := z_if_of hs
    obtain ⟨v, r, rfl, hs⟩ := z_k1_of hs
    exact lv_istore hx hb (z_len hdec rfl) (z_lr_has hlr) ham rfl (fun ls' hl' => hs hk hn ad H locs ls' (hR.setl (z_lr_set hlr (by simpa using hno) hl')))
  case iinc j q =>
    simp only [z_chk, Bool.and_eq_true, decide_eq_true_eq] at hchk
    obtain ⟨⟨⟨hnx, hj⟩, ham⟩, hq⟩ := hchk
    subst hnx
    subst hj
    obtain ⟨hno, hs⟩ := z_if_of hs
    obtain ⟨v, hv, hs⟩ := z_li_of hs
    obtain ⟨i0, hi0⟩ := List.getElem?_of_mem (z_prs_mem ad ls 0 j _ hv)
    rw [Nat.zero_add] at hi0
    exact lv_iinc (x := v) (v := v + x) hx hb (z_len hdec rfl) (z_lr_has hlr) hi0 (by rw [hq]) ham rfl (fun ls' hl' => hs hk hn ad H locs ls' (hR.setl (z_lr_set hlr (by simpa using hno) hl')))
  case iadd =>
    have hnx : nx = pc + 1 := of_decide_eq_true hchk
    subst hnx
    obtain ⟨v, w, r, rfl, hs⟩ := z_k2_of hs
    exact lv_iadd hx hb (z_len hdec rfl) (hs hk hn ad H locs lsC hR)
  case isub =>
    have hnx : nx = pc + 1 := of_decide_eq_true hchk
    subst hnx
    obtain ⟨v, w, r, rfl, hs⟩ := z_k2_of hs
    exact lv_isub hx hb (z_len hdec rfl) (hs hk hn ad H locs lsC hR)
  case imul =>
    have hnx : nx = pc + 1 := of_decide_eq_true hchk
    subst hnx
    obtain ⟨v, w, r, rfl, hs⟩ := z_k2_of hs
    exact lv_imul hx hb (z_len hdec rfl) (hs hk hn ad H locs lsC hR)
  case iand =>
    have hnx : nx = pc + 1 := of_decide_eq_true hchk
    subst hnx
    obtain ⟨v, w, r, rfl, hs⟩ := z_k2_of hs
    exact lv_iand hx hb (z_len hdec rfl) (hs hk hn ad H locs lsC hR)
  case ior =>
    have hnx : nx = pc + 1 := of_decide_eq_true hchk
    subst hnx
    obtain ⟨v, w, r, rfl, hs⟩ := z_k2_of hs
    exact lv_ior hx hb (z_len hdec rfl) (hs hk hn ad H locs lsC hR)
  case ixor =>
    have hnx : nx = pc + 1 := of_decide_eq_true hchk
    subst hnx
    obtain ⟨v, w, r, rfl, hs⟩ := z_k2_of hs
    exact lv_ixor hx hb (z_len hdec rfl) (hs hk hn ad H locs lsC hR)
  case ishl =>
    have hnx : nx = pc + 1 := of_decide_eq_true hchk
    subst hnx
    obtain ⟨v, w, r, rfl, hs⟩ := z_k2_of hs
    exact lv_ishl hx hb (z_len hdec rfl) (hs hk hn ad H locs lsC hR)
  case ishr =>
    have hnx : nx = pc + 1 := of_decide_eq_true hchk
    subst hnx
    obtain ⟨v, w, r, rfl, hs⟩ := z_k2_of hs
    exact lv_ishr hx hb (z_len hdec rfl) (hs hk hn ad H locs lsC hR)
  case idiv =>
    have hnx : nx = pc + 1 := of_decide_eq_true hchk
    subst hnx
    obtain ⟨v, w, r, rfl, hs⟩ := z_k2_of hs
    exact lv_idiv hx hb (z_len hdec rfl) hs.1 (hs.2 hk hn ad H locs lsC hR)
  case irem =>
    have hnx : nx = pc + 1 := of_decide_eq_true hchk
    subst hnx
    obtain ⟨v, w, r, rfl, hs⟩ := z_k2_of hs
    exact lv_irem hx hb (z_len hdec rfl) hs.1 (hs.2 hk hn ad H locs lsC hR)
  case iushr =>
    have hnx : nx = pc + 1 := of_decide_eq_true hchk
    subst hnx
    obtain ⟨v, w, r, rfl, hs⟩ := z_k2_of hs
    exact lv_iushr hx hb (z_len hdec rfl) rfl (hs hk hn ad H locs lsC hR)
  case ineg =>
    have hnx : nx = pc + 1 := of_decide_eq_true hchk
    subst hnx
    obtain ⟨v, r, rfl, hs⟩ := z_k1_of hs
    exact lv_ineg hx hb (z_len hdec rfl) (hs hk hn ad H locs lsC hR)
  case i2l =>
    have hnx : nx = pc + 1 := of_decide_eq_true hchk
    subst hnx
    obtain ⟨v, r, rfl, hs⟩ := z_k1_of hs
    exact lv_i2l hx hb (z_len hdec rfl) rfl (hs hk hn ad H locs lsC hR)
  case ladd =>
    have hnx : nx = pc + 1 := of_decide_eq_true hchk
    subst hnx
    obtain ⟨v, w, r, rfl, hs⟩ := z_kll_of hs
    exact lv_ladd hx hb (z_len hdec rfl) (hs hk hn ad H locs lsC hR)
  case lcmp =>
    have hnx : nx = pc + 1 := of_decide_eq_true hchk
    subst hnx
    obtain ⟨v, w, r, rfl, hs⟩ := z_kll_of hs
    exact W.lcmp hx hb (z_len hdec rfl) (hs hk hn ad H locs lsC hR)
  case dup =>
    have hnx : nx = pc + 1 := of_decide_eq_true hchk
    subst hnx
    obtain ⟨v, r, rfl, hc1, hs⟩ := z_kd1_of (st := st) (P := fun v r => z_XW p l e R s m args below meth c Q D dA A h0 ad0 mc ms ml (pc + 1) ls (v :: v :: r) h k n) hs
    exact lv_dup hx hb (z_len hdec rfl) (by rw [z_cat_tv]; exact hc1) (hs hk hn ad H locs lsC hR)
  case dup2 =>
    have hnx : nx = pc + 1 := of_decide_eq_true hchk
    subst hnx
    obtain ⟨v, w, r, rfl, hs⟩ := z_kir_of hs
    exact lv_dup2_11 hx hb (z_len hdec rfl) rfl rfl (hs hk hn ad H locs lsC hR)
  case ifCond o j =>
    simp only [z_chk, Bool.and_eq_true, decide_eq_true_eq] at hchk
    obtain ⟨hnx, ht⟩ := hchk
    subst hnx
    obtain ⟨v, r, rfl, hs⟩ := z_k1_of hs
    cases o
    case eq => exact lv_if_eq hx hb (z_len hdec rfl) ht (fun hc => hs.1 hc hk hn ad H locs lsC hR) (fun hc => hs.2 hc hk hn ad H locs lsC hR)
    case ne => exact lv_if_ne hx hb (z_len hdec rfl) ht (fun hc => hs.1 hc hk hn ad H locs lsC hR) (fun hc => hs.2 (fun h9 => h9 hc) hk hn ad H locs lsC hR)
    case lt => exact lv_if_lt hx hb (z_len hdec rfl) ht (fun hc => hs.1 hc hk hn ad H locs lsC hR) (fun hc => hs.2 hc hk hn ad H locs lsC hR)
    case ge => exact lv_if_ge hx hb (z_len hdec rfl) ht (fun hc => hs.1 hc hk hn ad H locs lsC hR) (fun hc => hs.2 hc hk hn ad H locs lsC hR)
    case gt => exact lv_if_gt hx hb (z_len hdec rfl) ht (fun hc => hs.1 hc hk hn ad H locs lsC hR) (fun hc => hs.2 hc hk hn ad H locs lsC hR)
    case le => exact lv_if_le hx hb (z_len hdec rfl) ht (fun hc => hs.1 hc hk hn ad H locs lsC hR) (fun hc => hs.2 hc hk hn ad H locs lsC hR)
  case if_icmp o j =>
    simp only [z_chk, Bool.and_eq_true, decide_eq_true_eq] at hchk
    obtain ⟨hnx, ht⟩ := hchk
    subst hnx
    obtain ⟨v, w, r, rfl, hs⟩ := z_k2_of hs
    cases o
    case eq => exact lv_icmp_eq hx hb (z_len hdec rfl) ht (fun hc => hs.1 hc hk hn ad H locs lsC hR) (fun hc => hs.2 hc hk hn ad H locs lsC hR)
    case ne => exact lv_icmp_ne hx hb (z_len hdec rfl) ht (fun hc => hs.1 hc hk hn ad H locs lsC hR) (fun hc => hs.2 (fun h9 => h9 hc) hk hn ad H locs lsC hR)
    case lt => exact lv_icmp_lt hx hb (z_len hdec rfl) ht (fun hc => hs.1 hc hk hn ad H locs lsC hR) (fun hc => hs.2 hc hk hn ad H locs lsC hR)
    case ge => exact lv_icmp_ge hx hb (z_len hdec rfl) ht (fun hc => hs.1 hc hk hn ad H locs lsC hR) (fun hc => hs.2 hc hk hn ad H locs lsC hR)
    case gt => exact lv_icmp_gt hx hb (z_len hdec rfl) ht (fun hc => hs.1 hc hk hn ad H locs lsC hR) (fun hc => hs.2 hc hk hn ad H locs lsC hR)
    case le => exact lv_icmp_le hx hb (z_len hdec rfl) ht (fun hc => hs.1 hc hk hn ad H locs lsC hR) (fun hc => hs.2 hc hk hn ad H locs lsC hR)
  case goto o =>
    simp only [z_chk, Bool.and_eq_true, decide_eq_true_eq] at hchk
    obtain ⟨ht, hnx⟩ := hchk
    exact lv_goto hx hb (z_len hdec hnx) ht (hs hk hn ad H locs lsC hR)
  case tableswitch df lo hi offs =>
    obtain ⟨v, r, rfl, hs⟩ := z_k1_of hs
    have hchk : z_csw pc a lo df hi offs.toList sw = true := hchk
    unfold z_csw at hchk
    simp only [Bool.and_eq_true, decide_eq_true_eq] at hchk
    obtain ⟨⟨⟨h1, h2⟩, h3⟩, h4⟩ := hchk
    have h5 : ∀ j, j < offs.toList.length → ∃ o x t, offs.toList[j]? = some o ∧ sw[j]? = some (x, t) ∧ x.toInt = lo + (j : Int) ∧ (pc : Int) + o = (t : Int) := by
      intro j hj
      have h6 := List.all_eq_true.mp h4 j (List.mem_range.mpr hj)
      obtain ⟨o, ho⟩ : ∃ o, offs.toList[j]? = some o := ⟨_, List.getElem?_eq_getElem hj⟩
      obtain ⟨⟨x, t⟩, hxt⟩ : ∃ q, sw[j]? = some q := ⟨_, List.getElem?_eq_getElem (by omega)⟩
      rw [ho, hxt] at h6
      simp only [Bool.and_eq_true, decide_eq_true_eq] at h6
      exact ⟨o, x, t, ho, hxt, h6.1, h6.2⟩
    rcases z_sw_of hs with ⟨j, x, t, hj, hv, hs⟩ | ⟨hno, hs⟩
    · have hjl : j < offs.toList.length := by rw [← h3]; exact (List.getElem?_eq_some_iff.mp hj).1
      obtain ⟨o, x', t', g1, g2, g3, g4⟩ := h5 j hjl
      rw [hj] at g2
      cases g2
      refine lv_tableIn hx hb hdec (x := v) (off := o) (tgt := t) (by rw [hv, g3]; omega) (by rw [hv, g3, h2]; omega) ?_ g4 (hs hk hn ad H locs lsC hR)
      rw [hv, g3, show (lo + (j : Int) - lo).toNat = j by omega, ← Array.getElem?_toList]
      exact g1
    · refine lv_tableOut hx hb hdec (x := v) (tgt := a) ?_ h1 (hs hk hn ad H locs lsC hR)
      by_cases hlt : v.toInt < lo
      · exact Or.inl hlt
      · right
        rw [h2]
        by_cases hl2 : v.toInt < lo + (offs.toList.length : Int)
        · exfalso
          obtain ⟨o, x, t, g1, g2, g3, g4⟩ := h5 (v.toInt - lo).toNat (by omega)
          refine hno _ x t g2 (Int32.toInt_inj.mp ?_)
          rw [g3]
          omega
        · omega
  case iaload =>
    have hnx : nx = pc + 1 := of_decide_eq_true hchk
    subst hnx
    
    obtain ⟨j, q, r, rfl, hs⟩ := z_kir_of hs
    have hs : z_hs S h q fun m f => vp_in j m ∧ z_XW p l e R s _ args below meth c Q D dA A h0 ad0 mc ms ml (pc + 1) ls (.int (f j.toNatClampNeg) :: r) h k n := hs
    unfold z_hs at hs
    split at hs
    · rename_i hq
      split at hs
      · rename_i hq2
        have hq2 := Nat.eq_of_beq_eq_true hq2
        subst hq2
        have e0 : ad 2000 = ad0 2000 := hR.1 _ (z_okr_iff.mpr (Or.inr (Or.inr (by decide))))
        show W p l e R s _ args below meth c H locs k n Q (F0 _ pc lsC (.int j :: .ref (ad 2000) :: r.map (z_tv ad)))
        rw [e0]
        exact va_ti (t := ad0 2000) (N := 7) hx hb hZ.2.1 hS hs.1 rfl (z_len hdec rfl) (hs.2 hk hn ad H locs lsC hR)
      · obtain ⟨hq3, hs⟩ := z_if_of hs
        have hq3 := Nat.eq_of_beq_eq_true hq3
        subst hq3
        have e0 : ad 2001 = ad0 2001 := hR.1 _ (z_okr_iff.mpr (Or.inr (Or.inr (by decide))))
        show W p l e R s _ args below meth c H locs k n Q (F0 _ pc lsC (.int j :: .ref (ad 2001) :: r.map (z_tv ad)))
        rw [e0]
        exact va_ti (t := ad0 2001) (N := S.1) hx hb hZ.2.2 hS hs.1 rfl (z_len hdec rfl) (hs.2 hk hn ad H locs lsC hR)
    · obtain ⟨m1, f, hg, hs⟩ := z_hi_of hs
      exact va_iald hx hb hK.1 hP _ 0 (z_get_tw dA ad hg) rfl hs.1 (z_len hdec rfl) (hs.2 hk hn ad H locs lsC hR)
  case arraylength =>
    have hnx : nx = pc + 1 := of_decide_eq_true hchk
    subst hnx
    
    obtain ⟨q, r, rfl, hs⟩ := z_kr_of hs
    have hs : z_hs S h q fun m f => z_XW p l e R s _ args below meth c Q D dA A h0 ad0 mc ms ml (pc + 1) ls (.int (Int32.ofNat m) :: r) h k n := hs
    unfold z_hs at hs
    split at hs
    · rename_i hq
      split at hs
      · rename_i hq2
        have hq2 := Nat.eq_of_beq_eq_true hq2
        subst hq2
        have e0 : ad 2000 = ad0 2000 := hR.1 _ (z_okr_iff.mpr (Or.inr (Or.inr (by decide))))
        show W p l e R s _ args below meth c H locs k n Q (F0 _ pc lsC (.ref (ad 2000) :: r.map (z_tv ad)))
        rw [e0]
        exact va_tlen (t := ad0 2000) (N := 7) hx hb hZ.2.1 hS rfl (z_len hdec rfl) (hs hk hn ad H locs lsC hR)
      · obtain ⟨hq3, hs⟩ := z_if_of hs
        have hq3 := Nat.eq_of_beq_eq_true hq3
        subst hq3
        have e0 : ad 2001 = ad0 2001 := hR.1 _ (z_okr_iff.mpr (Or.inr (Or.inr (by decide))))
        show W p l e R s _ args below meth c H locs k n Q (F0 _ pc lsC (.ref (ad 2001) :: r.map (z_tv ad)))
        rw [e0]
        exact va_tlen (t := ad0 2001) (N := S.1) hx hb hZ.2.2 hS rfl (z_len hdec rfl) (hs hk hn ad H locs lsC hR)
    · obtain ⟨m1, f, hg, hs⟩ := z_hi_of hs
      exact va_alen hx hb hK.1 hP _ 0 (z_get_tw dA ad hg) rfl rfl (z_len hdec rfl) (hs hk hn ad H locs lsC hR)
  case iastore =>
    have hnx : nx = pc + 1 := of_decide_eq_true hchk
    subst hnx
    
    obtain ⟨v, j, q, r, rfl, hs⟩ := z_kiir_of hs
    obtain ⟨m1, f, hg, hs⟩ := z_hi_of hs
    exact va_iast hx hb hK.1 hP hD hS _ 0 (z_get_tw dA ad hg) rfl hs.1 (z_len hdec rfl) (fun H1 locs1 hP1 hD1 hS1 => hs.2 hk hn ad H1 locs1 lsC (hR.seth hg hP1 hD1 hS1))
  case baload =>
    have hnx : nx = pc + 1 := of_decide_eq_true hchk
    subst hnx
    
    obtain ⟨j, q, r, rfl, hs⟩ := z_kir_of hs
    obtain ⟨m1, f, hg, hs⟩ := z_hi_of hs
    exact va_zald hx hb hK.1 hP _ 1 (z_get_tw dA ad hg) rfl hs.1 (z_len hdec rfl) (hs.2 hk hn ad H locs lsC hR)
  case bastore =>
    have hnx : nx = pc + 1 := of_decide_eq_true hchk
    subst hnx
    
    obtain ⟨v, j, q, r, rfl, hs⟩ := z_kiir_of hs
    obtain ⟨m1, f, hg, hs⟩ := z_hi_of hs
    refine va_zast hx hb hK.1 hP hD hS _ 1 (z_get_tw dA ad hg) rfl hs.1 (z_len hdec rfl) (fun H1 locs1 hP1 hD1 hS1 => ?_)
    rw [z_nar hs.2.1] at hP1 hD1
    exact hs.2.2 hk hn ad H1 locs1 lsC (hR.seth hg hP1 hD1 hS1)
  case aaload =>
    have hnx : nx = pc + 1 := of_decide_eq_true hchk
    subst hnx
    
    obtain ⟨j, q, r, rfl, hs⟩ := z_kir_of hs
    obtain ⟨f, hg, hj, t, ht, hs⟩ := z_hr_of hs
    refine va_aldq hx hb hK.1 hP _ 2 (z_get_tw dA ad hg) rfl hj (z_len hdec rfl) ?_
    rw [ht]
    exact hs hk hn ad H locs lsC hR
  case aastore =>
    have hnx : nx = pc + 1 := of_decide_eq_true hchk
    subst hnx
    
    obtain ⟨v, j, q, r, rfl, hs⟩ := z_krir_of hs
    obtain ⟨f, hg, hs⟩ := z_hr_of hs
    obtain ⟨fs, hv, hs⟩ := z_ho_of hs
    refine va_astq (ci := 2) (r := (RX2, TX2, 3)) hx hb hK.1 hP hD hS _ 2 _ (z_get_tw dA ad hg) rfl (z_get_tw dA ad hv) rfl hs.1 (z_len hdec rfl) (fun H1 locs1 hP1 hD1 hS1 => ?_)
    have e1 : va_up (fun j : Nat => ((f[j]?).getD none).map ad) j.toNatClampNeg (some (ad v)) = fun i : Nat => (((f.set j.toNatClampNeg (some v))[i]?).getD none).map ad := by
      funext i
      unfold va_up
      have hl : j.toNatClampNeg < f.length := by
        have := hs.1
        unfold vp_in at this
        omega
      by_cases hi : i = j.toNatClampNeg
      · subst hi
        rw [if_pos rfl, List.getElem?_set_self hl]
        rfl
      · rw [if_neg hi, List.getElem?_set_ne (Ne.symm hi)]
    have e2 : f.length = (f.set j.toNatClampNeg (some v)).length := by simp
    rw [e1] at hP1 hD1
    rw [e2] at hP1 hD1
    exact hs.2 hk hn ad H1 locs1 lsC (hR.seth hg hP1 hD1 hS1)
  case getfield v =>
    simp only [z_chk, Bool.and_eq_true, decide_eq_true_eq] at hchk
    obtain ⟨hnx, hf⟩ := hchk
    subst hnx
    obtain ⟨q, r, rfl, hs⟩ := z_kr_of hs
    obtain ⟨fs, hg, hs⟩ := z_ho_of hs
    obtain ⟨w, hw, hs⟩ := z_fd_of hs
    obtain ⟨r1, hc, hb1, hl⟩ := z_flP hf
    exact va_get (D := D) (ci := a) (v := z_tv ad w) (C := r1.1) (T := r1.2.1) (N := r1.2.2) hx hb hts (fun w h9 => hTs w ((z_clsP hc).2.2.1 w h9)) hown hK.1 hP _ (z_get_tw dA ad hg) hc b hb1 (hts _ (hTs _ hl)) (fun _ h9 => h9) (by rw [List.getElem?_map, hw]; rfl) (z_len hdec rfl) (hs hk hn ad H locs lsC hR)
  case putfield v =>
    simp only [z_chk, Bool.and_eq_true, decide_eq_true_eq] at hchk
    obtain ⟨⟨⟨hnx, hf⟩, hkd⟩, hfin⟩ := hchk
    subst hnx
    obtain ⟨w, q, r, rfl, hs⟩ := z_kvr_of hs
    obtain ⟨fs, hg, hs⟩ := z_ho_of hs
    obtain ⟨hbl, hs⟩ := z_if_of hs
    obtain ⟨r1, hc, hb1, hl⟩ := z_flP hf
    obtain ⟨k1, k2, k3, k4, k5⟩ := z_clsP hc
    obtain ⟨n1, n2, hs⟩ := z_pf_of hs hkd ad
    rw [hc] at hfin
    have hbl : b < (fs.map (z_tv ad)).length := by rw [List.length_map]; exact Nat.le_of_ble_eq_true hbl
    have hgo : ∀ (H1 : Heap) (locs1 : List Loc), va_P D z_cls ((z_tw dA ad h).set (z_pos h q) (ad q, .inr (a, (fs.map (z_tv ad)).set b (z_tv ad w)))) H1 → va_D A ((z_tw dA ad h).set (z_pos h q) (ad q, .inr (a, (fs.map (z_tv ad)).set b (z_tv ad w)))) → va_S A s.heap H1 locs1 → W p l e R s _ args below meth c H1 locs1 k n Q (F0 _ (pc + 3) lsC (r.map (z_tv ad))) := fun H1 locs1 hP1 hD1 hS1 => by
      rw [← List.map_set] at hP1 hD1
      exact hs hk hn ad H1 locs1 lsC (hR.seth (c1 := .inr (.inr (a, fs.set b w))) hg hP1 hD1 hS1)
    cases hfl : (r1.2.1 b).2.2.2 with
    | false => exact va_put (D := D) (ci := a) (v := z_tv ad w) (ty := z_ty a b) (C := r1.1) (T := r1.2.1) (N := r1.2.2) hx hb hts (fun w h9 => hTs w (k3 w h9)) (z_ty a) k1 k2 hown hK.1 hP hD hS _ (z_get_tw dA ad hg) hc b hb1 (hts _ (hTs _ hl)) (fun _ h9 => h9) hfl (k1 b hb1) n1 n2 hbl (z_len hdec rfl) hgo
    | true =>
      dsimp only at hfin
      rw [hfl] at hfin
      simp only [Bool.not_true, Bool.false_or, Bool.and_eq_true, decide_eq_true_eq] at hfin
      exact va_putF (D := D) (ci := a) (v := z_tv ad w) (ty := z_ty a b) (C := r1.1) (T := r1.2.1) (N := r1.2.2) hx hb hts (fun w h9 => hTs w (k3 w h9)) (z_ty a) k1 k2 hown hK.1 hP hD hS _ (z_get_tw dA ad hg) hc b hb1 (hts _ (hTs _ hl)) (fun _ h9 => h9) hfl (hini hfin.1) hfin.2 (k1 b hb1) n1 n2 hbl (z_len hdec rfl) hgo
  case getstatic v =>
    simp only [z_chk, Bool.and_eq_true, decide_eq_true_eq] at hchk
    obtain ⟨⟨hnx, ho⟩, hv⟩ := hchk
    subst hnx
    subst ho
    subst hv
    have e0 : ad 2000 = ad0 2000 := hR.1 _ (z_okr_iff.mpr (Or.inr (Or.inr (by decide))))
    have h9 := hs hk hn ad H locs lsC hR
    rw [List.map_cons, show z_tv ad (.ref 2000) = .ref (ad0 2000) from congrArg Value.ref e0] at h9
    exact va_gets hx hb hZ.1 hS hown (hts _ (hTs _ (z_inW f_fac rfl))) (fun _ h9 => h9) (z_len hdec rfl) h9
  case new v =>
    simp only [z_chk, Bool.and_eq_true, decide_eq_true_eq] at hchk
    obtain ⟨⟨hnx, hf⟩, hbN⟩ := hchk
    subst hnx
    obtain ⟨hwf, hk1, hn1, hs⟩ := hs
    obtain ⟨r1, hc, g1, g2, g3⟩ := z_cllP hf
    obtain ⟨k1, k2, k3, k4, k5⟩ := z_clsP hc
    rw [hc] at hbN
    have hbN : r1.2.2 = b := of_decide_eq_true hbN
    subst hbN
    obtain ⟨r, h', hs, o1, o2, o3, o4⟩ := z_new_of hs
    have hdf : (z_dfl a).map (z_tv ad) = z_dfl a := by
      unfold z_dfl
      split <;> rfl
    refine va_new (D := D) (ci := a) (fs := z_dfl a) (C := r1.1) (T := r1.2.1) (N := r1.2.2) hx hb hts (fun w h9 => hTs w (k3 w h9)) (z_ty a) k1 hown (hts _ (hTs _ g1)) (hts _ (hTs _ g2)) (hts _ (hTs _ g3)) hK.1 hP hD hS hA hc k4 (Nat.le_trans hk1 hRc) (Nat.le_trans hn1 hRs) (z_len hdec rfl) (fun q H1 hP1 hD1 hS1 => ?_)
    have e1 : z_te dA ad (.inr (.inr (a, z_dfl a))) = .inr (a, z_dfl a) := by
      show Sum.inr (a, (z_dfl a).map (z_tv ad)) = _
      rw [hdf]
    have e2 : z_te dA (z_ad ad r q) (.inr (.inr (a, z_dfl a))) = z_te dA ad (.inr (.inr (a, z_dfl a))) := by
      show Sum.inr (a, (z_dfl a).map (z_tv (z_ad ad r q))) = Sum.inr (a, (z_dfl a).map (z_tv ad))
      unfold z_dfl
      split <;> rfl
    rw [← e1] at hP1 hD1
    obtain ⟨hR1, hst⟩ := hR.push (r := r) (q := q) hwf o1 (o2 h0 hR.2.2.1.1 hR.2.2.1.2) (by rw [o4, e2]; simp [z_ad]) o3 hP1 hD1 hS1
    have h9 := hs hk1 hn1 (z_ad ad r q) H1 locs lsC hR1
    rw [List.map_cons, hst, show z_tv (z_ad ad r q) (.ref r) = .ref q by simp [z_tv, z_ad]] at h9
    exact h9
  case newarray t =>
    simp only [z_chk, Bool.and_eq_true, decide_eq_true_eq] at hchk
    obtain ⟨⟨hnx, ht⟩, hb1⟩ := hchk
    subst hnx
    obtain ⟨v, r, rfl, hwf, hv, hk1, hn1, hs2⟩ := z_k1_of hs
    clear hs
    subst hv
    obtain ⟨rr, h', hs, o1, o2, o3, o4⟩ := z_new_of hs2
    have hz := z_toNat hb1
    have hgo : ∀ (q : Nat) (H1 : Heap) (ty : FieldType) (t0 : Nat) (cA : ClassId), (z_tys dA)[t0]? = some (dA a, ty) → va_RA s cA ty → (∀ C, ty ≠ .object C) → va_P D z_cls (z_tw dA ad h ++ [(q, .inl (cA, b, .inl fun _ => 0))]) H1 → va_D A (z_tw dA ad h ++ [(q, .inl (cA, b, .inl fun _ => 0))]) → va_S A s.heap H1 locs → W p l e R s m args below meth c H1 locs (k + 1) (n + b) Q (F0 m (pc + 2) lsC (.ref q :: r.map (z_tv ad))) := by
      intro q H1 ty t0 cA htt hra hno hP1 hD1 hS1
      have hra2 := (hK.1.2 t0 _ htt).2
      have hcA : cA = dA a := by
        cases ty <;> first | exact absurd rfl (hno _) | exact Option.some.inj ((show s.vm.findClass _ = some cA from hra).symm.trans (show s.vm.findClass _ = some (dA a) from hra2))
      subst hcA
      obtain ⟨hR1, hst⟩ := hR.push (r := rr) (q := q) (c1 := .inl (a, b, fun _ => 0)) hwf o1 (o2 h0 hR.2.2.1.1 hR.2.2.1.2) (by rw [o4]; simp [z_ad, z_te]) o3 hP1 hD1 hS1
      have h9 := hs hk1 hn1 (z_ad ad rr q) H1 locs lsC hR1
      rw [List.map_cons, hst, show z_tv (z_ad ad rr q) (.ref rr) = .ref q by simp [z_tv, z_ad]] at h9
      exact h9
    simp only [Bool.or_eq_true, Bool.and_eq_true, decide_eq_true_eq] at ht
    rcases ht with ⟨rfl, rfl⟩ | ⟨rfl, rfl⟩
    · refine va_newa (atype := .int) (ty := .int) (a0 := (b, .inl fun _ => 0)) hx hb (hts _ (hTs _ (z_inW f_arr.1 rfl))) rfl hK.1 hP hD hS hA (fun cA => rfl) hz.1 hz.2 (by show b * 4 ≤ _; omega) (Nat.le_trans hk1 hRc) (Nat.le_trans hn1 hRs) (z_len hdec rfl) (fun q cA H1 hK1 hP1 hD1 hS1 => ?_)
      exact hgo q H1 .int 0 cA rfl (hK1.2 3 _ rfl).2 (fun C h9 => by cases h9) hP1 hD1 hS1
    · refine va_newa (atype := .boolean) (ty := .boolean) (a0 := (b, .inl fun _ => 0)) hx hb (hts _ (hTs _ (z_inW f_arr.2.1 rfl))) rfl hK.1 hP hD hS hA (fun cA => rfl) hz.1 hz.2 (by show b * 1 ≤ _; omega) (Nat.le_trans hk1 hRc) (Nat.le_trans hn1 hRs) (z_len hdec rfl) (fun q cA H1 hK1 hP1 hD1 hS1 => ?_)
      exact hgo q H1 .boolean 1 cA rfl (hK1.2 3 _ rfl).2 (fun C h9 => by cases h9) hP1 hD1 hS1
  case anewarray v =>
    simp only [z_chk, Bool.and_eq_true, decide_eq_true_eq] at hchk
    obtain ⟨⟨⟨hnx, ho⟩, hv1⟩, hb1⟩ := hchk
    subst hnx
    subst ho
    subst hv1
    obtain ⟨v, r, rfl, hwf, hv, hk1, hn1, hs2⟩ := z_k1_of hs
    clear hs
    subst hv
    obtain ⟨rr, h', hs, o1, o2, o3, o4⟩ := z_new_of hs2
    have hz := z_toNat hb1
    refine va_newq (C := RX2) hx hb hown (hts _ (hTs _ (z_inW f_arr.2.2 rfl))) hK.2.2 hK.1 hP hD hS hA hz.1 hz.2 (by omega) (Nat.le_trans hk1 hRc) (Nat.le_trans hn1 hRs) (z_len hdec rfl) (fun q cA H1 hK1 hP1 hD1 hS1 => ?_)
    have hcA : cA = dA 2 := by
      obtain ⟨kA, comp, f1, f2, f3, f4⟩ := (hK1.2 3 (cA, .object RX2) rfl).2
      obtain ⟨kA', comp', f1', f2', f3', f4'⟩ := (hK.1.2 2 (dA 2, .object RX2) rfl).2
      exact Option.some.inj (f4.symm.trans f4')
    subst hcA
    have e1 : ∀ ad : Nat → Nat, z_te dA ad (.inr (.inl (List.replicate b none))) = .inl (dA 2, b, .inr (.inr (.inr (.inr fun _ => none)))) := fun ad => by
      show Sum.inl (dA 2, (List.replicate b (none : Option Nat)).length, Sum.inr (Sum.inr (Sum.inr (Sum.inr fun j : Nat => (((List.replicate b (none : Option Nat))[j]?).getD none).map ad)))) = _
      have : (fun j : Nat => (((List.replicate b (none : Option Nat))[j]?).getD none).map ad) = fun _ => none := by
        funext j
        rw [List.getElem?_replicate]
        split <;> rfl
      rw [this, List.length_replicate]
    rw [← e1 ad] at hP1 hD1
    obtain ⟨hR1, hst⟩ := hR.push (r := rr) (q := q) (c1 := .inr (.inl (List.replicate b none))) hwf o1 (o2 h0 hR.2.2.1.1 hR.2.2.1.2) (by rw [o4, e1, e1]; simp [z_ad]) o3 hP1 hD1 hS1
    have h9 := hs hk1 hn1 (z_ad ad rr q) H1 locs lsC hR1
    rw [List.map_cons, hst, show z_tv (z_ad ad rr q) (.ref rr) = .ref q by simp [z_tv, z_ad]] at h9
    exact h9
  case invokevirtual v =>
    simp only [z_chk, Bool.and_eq_true, decide_eq_true_eq] at hchk
    obtain ⟨⟨hnx, hm1⟩, hv1⟩ := hchk
    obtain ⟨As, r, rfl, hlen, hs⟩ := z_app_of (z_e_vi hs)
    obtain ⟨hcat, hs⟩ := z_if_of hs
    obtain ⟨hrc, hs⟩ := z_if_of hs
    obtain ⟨q, As', fs, rfl, hg⟩ := z_rcv_of hrc
    obtain ⟨v0, h', mc', ms', hex, hwf, hk1, hn1, hs⟩ := z_call_of hk hn hs
    obtain ⟨r1, hr1, hl1⟩ := z_mlP hm1
    obtain ⟨r2, e2, hr2, he2, w1, w2, hds, hcl, h8⟩ := z_vsP hv1
    rw [hr1] at hr2
    cases hr2
    obtain ⟨y1, y2, y3, y4, y5, y6⟩ := z_myP hr1 (by omega)
    have hM := hC mc' ms' a _ h v0 h' hex r1 hr1 (by omega) ad H.size
    have hds : (parseMethodDescriptor r1.2.1.desc).map (fun d => d.parameters.length) = some As'.length := by
      cases hpd : parseMethodDescriptor r1.2.1.desc with
      | none => rw [hpd] at hds; cases hds
      | some dd =>
        rw [hpd] at hds
        have : dd.parameters.length + 1 = b := Option.some.inj hds
        have : As'.length + 1 = b := hlen
        exact congrArg some (by show dd.parameters.length = _; omega)
    have hG : GoodIn Ts (wsV (z_cn own) v e2.1 r1.2.1 (Jvm.Cond.code r1.2.1 r1.2.2.1 r1.2.2.2.1 r1.2.2.2.2 :: z_ws)) := by
      intro w hw
      rcases List.mem_append.mp hw with hw | hw
      · have hw' : w ∈ z_ws := by
          rcases List.mem_cons.mp hw with h9 | hw
          · rw [h9]; exact hl1
          · rcases List.mem_cons.mp hw with h9 | hw
            · rw [h9]; exact w1
            · rcases List.mem_cons.mp hw with h9 | hw
              · rw [h9, hcl]; exact w2
              · rcases List.mem_cons.mp hw with h9 | hw
                · rw [h9, hcl]; exact y3
                · cases hw
        exact ⟨hTs w hw', good_of_word (List.mem_filter.mp hw').2⟩
      · exact z_goodIn hTs y2 w hw
    refine z_after hA hR hwf hnx hk1 hn1 (va_runV (C := e2.1) (b := ad q) (As := As'.map (z_tv ad)) (rest := r.map (z_tv ad)) ⟨hx, hb, hml, hown, hts⟩ hM (cwV As'.length hts hG rfl rfl rfl ⟨hcl.symm, y5.1, y5.2, hds⟩ ⟨hRf, by show 8 + (r1.2.2.2.1 + 11) + 36 * d ≤ _; omega⟩) ⟨z_blind, va_recv hK.1 hP he2 (z_get_tw dA ad hg), fun U hU hW => z_given (.ref q :: As') hK hZ hA hR U hU hW⟩ rfl (List.length_map _) hlr.2.1.1 ?_ (lv_room (by rw [z_cat_map]; exact Nat.le_of_ble_eq_true hcat)) (z_len hdec hnx) ⟨Nat.le_trans hk1 hRc, Nat.le_trans hn1 hRs⟩) hs
    show List.map (z_tv ad) ((Value.ref q :: As').reverse ++ r) = _
    rw [List.reverse_cons, List.append_assoc, List.map_append, List.map_reverse]
    rfl
  case invokestatic v =>
    simp only [z_chk, Bool.and_eq_true, decide_eq_true_eq] at hchk
    obtain ⟨⟨hnx, hm1⟩, hv1⟩ := hchk
    obtain ⟨As, r, rfl, hlen, hs⟩ := z_app_of (z_e_st hs)
    obtain ⟨hcat, hs⟩ := z_if_of hs
    obtain ⟨v0, h', mc', ms', hex, hwf, hk1, hn1, hs⟩ := z_call_of hk hn hs
    obtain ⟨r1, hr1, w1, hds, h8⟩ := z_ssP hv1
    obtain ⟨y1, y2, y3, y4, y5, y6⟩ := z_myP hr1 (by omega)
    have hM := hC mc' ms' a _ h v0 h' hex r1 hr1 (by omega) ad H.size
    rw [← hlen] at hds
    have hst : List.map (z_tv ad) (As.reverse ++ r) = (As.map (z_tv ad)).reverse ++ r.map (z_tv ad) := by rw [List.map_append, List.map_reverse]
    have hRo : 8 + (r1.2.2.2.1 + 11) + 36 * d ≤ R.locals := by omega
    simp only [Bool.or_eq_true, decide_eq_true_eq] at hm1
    rcases hm1 with hm1 | hm1
    · obtain ⟨r2, hr2, hl1⟩ := z_mlP hm1
      rw [hr1] at hr2
      cases hr2
      have hG : GoodIn Ts (va_wsS (z_cn own) v r1.2.1 (Jvm.Cond.code r1.2.1 r1.2.2.1 r1.2.2.2.1 r1.2.2.2.2 :: z_ws)) := by
        intro w hw
        rcases List.mem_append.mp hw with hw | hw
        · have hw' : w ∈ z_ws := by
            rcases List.mem_cons.mp hw with h9 | hw
            · rw [h9]; exact hl1
            · rcases List.mem_cons.mp hw with h9 | hw
              · rw [h9]; exact w1
              · rcases List.mem_cons.mp hw with h9 | hw
                · rw [h9]; exact y3
                · cases hw
          exact ⟨hTs w hw', good_of_word (List.mem_filter.mp hw').2⟩
        · exact z_goodIn hTs y2 w hw
      exact z_after hA hR hwf hnx hk1 hn1 (va_runS (As := As.map (z_tv ad)) (rest := r.map (z_tv ad)) ⟨hx, hb, hml, hown, hts⟩ hM (va_cwS As.length hts hG rfl rfl rfl ⟨y5.1, y5.2, hds⟩ ⟨hRf, hRo⟩) ⟨z_blind, fun U hU hW => z_given As hK hZ hA hR U hU hW⟩ rfl (List.length_map _) hlr.2.1.1 hst (lv_room (by rw [z_cat_map]; exact Nat.le_of_ble_eq_true hcat)) (z_len hdec hnx) ⟨Nat.le_trans hk1 hRc, Nat.le_trans hn1 hRs⟩) hs
    · have hnw := hK.2.1 _ hm1 r1 hr1
      exact z_after hA hR hwf hnx hk1 hn1 (va_runSN (host := RX4) (As := As.map (z_tv ad)) (rest := r.map (z_tv ad)) ⟨hx, hb, hml, hown, hts⟩ hM ⟨va_cnB As.length hts (z_goodIn hTs y2) rfl rfl rfl hnw (hts _ (hTs _ y3)) ⟨y5.1, y5.2, hds⟩ ⟨hRf, hRo⟩, hts _ (hTs _ w1), trivial⟩ ⟨z_blind, fun U hU hW => z_given As hK hZ hA hR U hU hW⟩ rfl (List.length_map _) hlr.2.1.1 hst (lv_room (by rw [z_cat_map]; exact Nat.le_of_ble_eq_true hcat)) (z_len hdec hnx) ⟨Nat.le_trans hk1 hRc, Nat.le_trans hn1 hRs⟩) hs
  case invokespecial v =>
    simp only [z_chk, Bool.and_eq_true, decide_eq_true_eq] at hchk
    obtain ⟨hnx, hm1⟩ := hchk
    obtain ⟨As, r, rfl, hlen, hs⟩ := z_app_of (z_e_sp hs)
    obtain ⟨hcat, hs⟩ := z_if_of hs
    simp only [Bool.or_eq_true, Bool.and_eq_true, decide_eq_true_eq, Bool.not_eq_true', decide_eq_false_iff_not] at hm1
    rcases hm1 with ⟨⟨ha0, hm1⟩, hb1⟩ | ⟨⟨ha0, hm1⟩, hi1⟩
    · subst ha0
      obtain ⟨r1, hr1, hl1⟩ := z_mlP hm1
      have hr1' : (8, objectInit, (⟨#[0xb1]⟩ : ByteArray), 1, none) = r1 := Option.some.inj hr1
      subst hr1'
      have hs : z_ob As (z_XW p l e R s m args below meth c Q D dA A h0 ad0 mc ms ml nx ls r h k n) := hs
      unfold z_ob at hs
      split at hs
      · subst hnx
        have hcat : ((r.map (z_tv ad)).map fun v => v.category).sum ≤ 8 := by rw [z_cat_map]; exact Nat.le_of_ble_eq_true hcat
        exact W.objInit hx hb hown (hts _ (hTs _ hl1)) (hts _ (hTs _ (z_inW f_obj.1 rfl))) (hts _ (hTs _ (z_inW f_obj.2 rfl))) rfl (by rw [hml]; exact hlr.2.1.1) rfl (z_len hdec rfl) (by omega) (by show 2 * 0 + ((r.map (z_tv ad)).map fun v => v.category).sum + 12 ≤ R.locals; omega) (hs hk hn ad H locs lsC hR)
      · exact hs.elim
    · obtain ⟨r1, hr1, w1, hnm, hds, hrt, h8⟩ := z_isP hi1
      obtain ⟨y1, y2, y3, y4, y5, y6⟩ := z_myP hr1 (by omega)
      have hs : z_if (z_isr As) (z_call (Ex S d) mc ms (z_XW p l e R s m args below meth c Q D dA A h0 ad0 mc ms ml) a nx ls As r h k n) := by
        have hs : z_sp a (z_ob As (z_XW p l e R s m args below meth c Q D dA A h0 ad0 mc ms ml nx ls r h k n)) (z_if (z_isr As) (z_call (Ex S d) mc ms (z_XW p l e R s m args below meth c Q D dA A h0 ad0 mc ms ml) a nx ls As r h k n)) := hs
        unfold z_sp at hs
        split at hs
        · rename_i hz
          exact absurd (Nat.eq_of_beq_eq_true hz) ha0
        · exact hs
      obtain ⟨hisr, hs⟩ := z_if_of hs
      obtain ⟨q, As', rfl⟩ : ∃ q As', As = .ref q :: As' := by
        unfold z_isr at hisr
        split at hisr
        · exact ⟨_, _, rfl⟩
        · cases hisr
      obtain ⟨v0, h', mc', ms', hex, hwf, hk1, hn1, hs⟩ := z_call_of hk hn hs
      have hM := hC mc' ms' a _ h v0 h' hex r1 hr1 (by omega) ad H.size
      rw [hrt] at hM y2
      have hds : (parseMethodDescriptor r1.2.1.desc).map (fun d => d.parameters.length) = some As'.length := by
        cases hpd : parseMethodDescriptor r1.2.1.desc with
        | none => rw [hpd] at hds; cases hds
        | some dd =>
          rw [hpd] at hds
          have : dd.parameters.length + 1 = b := Option.some.inj hds
          have : As'.length + 1 = b := hlen
          exact congrArg some (by show dd.parameters.length = _; omega)
      have hst : List.map (z_tv ad) ((Value.ref q :: As').reverse ++ r) = (As'.map (z_tv ad)).reverse ++ .ref (ad q) :: r.map (z_tv ad) := by
        rw [List.reverse_cons, List.append_assoc, List.map_append, List.map_reverse]
        rfl
      have hRo : 8 + (r1.2.2.2.1 + 11) + 36 * d ≤ R.locals := by omega
      rcases hm1 with hm1 | hm1
      · obtain ⟨r2, hr2, hl1⟩ := z_mlP hm1
        rw [hr1] at hr2
        cases hr2
        exact z_after hA hR hwf hnx hk1 hn1 (va_runI (b := ad q) (As := As'.map (z_tv ad)) (rest := r.map (z_tv ad)) ⟨hx, hb, hml, hown, hts⟩ hM (cwI As'.length hts (z_goodIn hTs y2) rfl rfl rfl (hts _ (hTs _ y3)) (hts _ (hTs _ hl1)) (hts _ (hTs _ w1)) hnm ⟨y5.1, y5.2, hds⟩ ⟨hRf, hRo⟩) ⟨z_blind, fun U hU hW => z_given (.ref q :: As') hK hZ hA hR U hU hW⟩ rfl (List.length_map _) hlr.2.1.1 hst (lv_room (by rw [z_cat_map]; exact Nat.le_of_ble_eq_true hcat)) (z_len hdec hnx) ⟨Nat.le_trans hk1 hRc, Nat.le_trans hn1 hRs⟩) hs
      · have hnw := hK.2.1 _ hm1 r1 hr1
        exact z_after hA hR hwf hnx hk1 hn1 (va_runIN (host := RX4) (b := ad q) (As := As'.map (z_tv ad)) (rest := r.map (z_tv ad)) ⟨hx, hb, hml, hown, hts⟩ hM ⟨va_cnB As'.length hts (z_goodIn hTs y2) rfl rfl rfl hnw (hts _ (hTs _ y3)) ⟨y5.1, y5.2, hds⟩ ⟨hRf, hRo⟩, hnm, hts _ (hTs _ w1)⟩ ⟨z_blind, fun U hU hW => z_given (.ref q :: As') hK hZ hA hR U hU hW⟩ rfl (List.length_map _) hlr.2.1.1 hst (lv_room (by rw [z_cat_map]; exact Nat.le_of_ble_eq_true hcat)) (z_len hdec hnx) ⟨Nat.le_trans hk1 hRc, Nat.le_trans hn1 hRs⟩) hs
  case ireturn =>
    obtain ⟨v, rfl, hs⟩ := z_ret_of (z_e_ir hs)
    cases v
    case int v hs =>
      refine hret pc _ nx a b cd x y sw ls h k n ad H locs lsC (some (.int v)) hat ?_ ?_ hk hn hR
      · intro hrb
        subst hrb
        exact hs.1
      · cases rb with
        | true => exact hs.2
        | false => exact hs
    all_goals (rename_i hs; exact False.elim hs)
  case lreturn =>
    obtain ⟨v, rfl, hs⟩ := z_ret_of (z_e_lr hs)
    cases v
    case long v hs => exact hret pc _ nx a b cd x y sw ls h k n ad H locs lsC (some (.long v)) hat trivial hs hk hn hR
    all_goals (rename_i hs; exact False.elim hs)
  case areturn =>
    obtain ⟨v, rfl, hs⟩ := z_ret_of (z_e_ar hs)
    cases v
    case ref v hs => exact hret pc _ nx a b cd x y sw ls h k n ad H locs lsC (some (.ref v)) hat trivial hs hk hn hR
    all_goals (rename_i hs; exact False.elim hs)
  case return_ =>
    cases st with
    | nil => exact hret pc _ nx a b cd x y sw ls h k n ad H locs lsC none hat trivial hs hk hn hR
    | cons v r => exact False.elim hs
  all_goals exact False.elim hs
end ZT
