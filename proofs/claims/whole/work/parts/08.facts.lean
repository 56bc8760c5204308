/-! ===== what the tables say of the links; the check of a row of code ===== -/
def z_cn (o : Nat) : String := match o with
  | 0 => RX0
  | 1 => RX1
  | 2 => RX2
  | 3 => RX3
  | 4 => RX4
  | 5 => RX5
  | 6 => RJ6
  | 7 => RJ9
  | _ => RL
def z_ty (o : Nat) : Nat → FieldType := match o with
  | 0 => tyX0
  | 1 => tyX1
  | 2 => tyX2
  | 3 => tyX3
  | 4 => tyX4
  | _ => tyX5
def z_kd (t : FieldType) : Nat := match t with
  | .int => 0
  | .boolean => 1
  | .long => 3
  | .object _ => 2
  | .array _ => 2
  | _ => 9
def z_ws : List Jvm.Cond := lw_tbl.filter goodWord
theorem z_inW {w : Jvm.Cond} (h : w ∈ tables_1) (g : goodWord w = true) : w ∈ z_ws := List.mem_filter.mpr ⟨List.mem_append_right _ h, g⟩
/-- a check of each of a list, with a place that goes with it -/
def z_all2 {α : Type} (P : α → Nat → Bool) : List α → List Nat → Bool
  | [], _ => true
  | q :: r, p :: s => P q p && z_all2 P r s
  | _ :: _, [] => false
theorem z_all2_of {α : Type} {P : α → Nat → Bool} : ∀ {l : List α} {s : List Nat}, z_all2 P l s = true → ∀ q ∈ l, ∃ p, P q p = true
  | [], _, _, _, h => by simp at h
  | q :: r, p :: s, hh, q', h => by
    simp only [z_all2, Bool.and_eq_true] at hh
    rcases List.mem_cons.mp h with h | h
    · exact ⟨p, by rw [h]; exact hh.1⟩
    · exact z_all2_of hh.2 q' h
  | _ :: _, [], hh, _, _ => by simp [z_all2] at hh
def z_is? (p : Nat) (w : Jvm.Cond) : Bool := decide (tables_1[p]? = some w)
theorem z_is_mem {p : Nat} {w : Jvm.Cond} (h : z_is? p w = true) : w ∈ tables_1 := List.mem_of_getElem? (of_decide_eq_true h)
theorem f_fl : z_all2 (fun q p => match z_cls[q.2.2.1]? with
    | some r => decide (q.2.2.2 < r.2.2) && z_is? p (Jvm.Cond.fieldLink (z_cn q.1) q.2.1 (r.2.1 q.2.2.2).1 (r.2.1 q.2.2.2).2.1 (r.2.1 q.2.2.2).2.2.1)
    | none => false) z_fl z_flp = true := by decide +kernel
theorem f_ml : z_all2 (fun q p => match z_my[q.2.2]? with
    | some r => z_is? p (Jvm.Cond.methodLink (z_cn q.1) q.2.1 r.2.1)
    | none => false) z_ml z_mlp = true := by decide +kernel
theorem f_nl : (z_nl.all fun q => match z_my[q.2.2.1]? with
    | some r => decide (Jvm.Cond.methodLinkNest (z_cn q.1) q.2.1 r.2.1 q.2.2.2 ∈ tables_1)
    | none => false) = true := by decide +kernel
theorem f_cll : (z_cll.all fun q => match z_cls[q.2.2]? with
    | some r => decide (Jvm.Cond.classLink (z_cn q.1) q.2.1 r.1 ∈ tables_1) && decide (Jvm.Cond.instantiable r.1 r.2.2 ∈ tables_1) && decide (Jvm.Cond.initialized r.1 ∈ tables_1)
    | none => false) = true := by decide +kernel
theorem f_kc : (z_kc.all fun q => decide (Jvm.Cond.constant (z_cn q.1) q.2.1 q.2.2 ∈ tables_1)) = true := by decide +kernel
theorem f_kl : (z_kl.all fun q => decide (Jvm.Cond.constantLong (z_cn q.1) q.2.1 q.2.2 ∈ tables_1)) = true := by decide +kernel
theorem f_vs1 : z_all2 (fun q p => match z_my[q.1]?, z_cls[q.2.2]? with
    | some r, some e => z_is? p (Jvm.Cond.instanceMethod r.2.1) && decide ((parseMethodDescriptor r.2.1.desc).map (fun d => d.parameters.length + 1) = some q.2.1) && decide (e.1 = r.2.1.cls) && decide (r.1 < 8)
    | _, _ => false) z_vs z_vsp = true := by decide +kernel
theorem f_vs2 : z_all2 (fun q p => match z_my[q.1]? with
    | some r => decide (lw_tbl[p]? = some (Jvm.Cond.selects r.2.1.cls r.2.1 r.2.1))
    | none => false) z_vs z_vsq = true := by decide +kernel
theorem f_ss : z_all2 (fun q p => match z_my[q.1]? with
    | some r => z_is? p (Jvm.Cond.static r.2.1) && decide ((parseMethodDescriptor r.2.1.desc).map (fun d => d.parameters.length) = some q.2.1) && decide (r.1 < 8)
    | none => false) z_ss z_ssp = true := by decide +kernel
theorem f_is : z_all2 (fun q p => match z_my[q.1]? with
    | some r => z_is? p (Jvm.Cond.instanceMethod r.2.1) && decide (r.2.1.name = "<init>") && decide ((parseMethodDescriptor r.2.1.desc).map (fun d => d.parameters.length + 1) = some q.2.1) && decide (r.2.2.2.2 = none) && decide (r.1 < 8)
    | none => false) z_is z_isp = true := by decide +kernel
theorem f_my : z_all2 (fun r p => decide (r.1 = 8) || (decide (z_cn r.1 = r.2.1.cls) && z_is? p (Jvm.Cond.initialized r.2.1.cls) && plainFor r.2.1 && decide (r.2.1.cls ≠ "java/lang/invoke/MethodHandle") && decide (r.2.1.cls ≠ "java/lang/invoke/VarHandle") && Nat.ble r.2.2.2.1 17)) z_my z_myp = true := by decide +kernel
theorem f_cls : (z_cls.all fun r => (u_ws r.1 r.2.1 r.2.2).all fun w => decide (w ∈ tables_1)) = true := by decide +kernel
theorem f_obj : Jvm.Cond.instanceMethod objectInit ∈ tables_1 ∧ Jvm.Cond.code objectInit ⟨#[0xb1]⟩ 1 none ∈ tables_1 := by decide +kernel
theorem f_fac : Jvm.Cond.fieldLink RX4 266 "InsultStatues" "FACTORIAL" "[I" ∈ tables_1 := by decide +kernel
theorem f_arr : Jvm.Cond.arrayClass .int ∈ tables_1 ∧ Jvm.Cond.arrayClass .boolean ∈ tables_1 ∧ Jvm.Cond.classLink RX4 23 RX2 ∈ tables_1 := by decide +kernel
def z_csw (pc d : Nat) (lo : Int) (dflt hi : Int) (offs : List Int) (sw : List (Int32 × Nat)) : Bool :=
  decide ((pc : Int) + dflt = (d : Int)) && decide (hi = lo + (offs.length : Int) - 1) && decide (sw.length = offs.length) &&
  (List.range offs.length).all fun j => match offs[j]?, sw[j]? with
    | some o, some (x, t) => decide (x.toInt = lo + (j : Int)) && decide ((pc : Int) + o = (t : Int))
    | _, _ => false
def z_chk (own ml : Nat) (ini : Bool) (pc : Nat) (i : Instr) (nx a b c : Nat) (x : Int32) (y : Int64) (sw : List (Int32 × Nat)) : Bool := match i with
  | .iconst v => decide (nx = pc + 1) && decide (Int32.ofInt v = x)
  | .bipush v => decide (nx = pc + 2) && decide ((Int8.ofInt v).toInt32 = x)
  | .sipush v => decide (nx = pc + 3) && decide ((Int16.ofInt v).toInt32 = x)
  | .ldc v => decide (nx = pc + 2) && decide ((own, v, x) ∈ z_kc)
  | .ldc_w v => decide (nx = pc + 3) && decide ((own, v, x) ∈ z_kc)
  | .lconst v => decide (nx = pc + 1) && decide (Int64.ofNat (v : Nat) = y)
  | .ldc2_w v => decide (nx = pc + 3) && decide ((own, v, y) ∈ z_kl)
  | .iload_n v => decide (nx = pc + 1) && decide ((v : Nat) = a)
  | .aload_n v => decide (nx = pc + 1) && decide ((v : Nat) = a)
  | .lload_n v => decide (nx = pc + 1) && decide ((v : Nat) = a)
  | .iload v => decide (nx = pc + 2) && decide (v = a)
  | .aload v => decide (nx = pc + 2) && decide (v = a)
  | .lload v => decide (nx = pc + 2) && decide (v = a)
  | .istore_n v => decide (nx = pc + 1) && decide ((v : Nat) = a) && decide (a < ml)
  | .astore_n v => decide (nx = pc + 1) && decide ((v : Nat) = a) && decide (a < ml)
  | .istore v => decide (nx = pc + 2) && decide (v = a) && decide (a < ml)
  | .iinc v w => decide (nx = pc + 3) && decide (v = a) && decide (a < ml) && decide (Int32.ofInt w = x)
  | .ifCond _ o => decide (nx = pc + 3) && decide ((pc : Int) + o = (a : Int))
  | .if_icmp _ o => decide (nx = pc + 3) && decide ((pc : Int) + o = (a : Int))
  | .goto o => decide ((pc : Int) + o = (a : Int)) && decide (nx = pc + 3)
  | .tableswitch d lo hi offs => z_csw pc a lo d hi offs.toList sw
  | .getfield v => decide (nx = pc + 3) && decide ((own, v, a, b) ∈ z_fl)
  | .putfield v => decide (nx = pc + 3) && decide ((own, v, a, b) ∈ z_fl) && decide (z_kd (z_ty a b) = c) && (match z_cls[a]? with
    | some r => !(r.2.1 b).2.2.2 || (ini && decide ((r.2.1 b).1 = z_cn own))
    | none => false)
  | .getstatic v => decide (nx = pc + 3) && decide (own = 4) && decide (v = 266)
  | .new v => decide (nx = pc + 3) && decide ((own, v, a) ∈ z_cll) && (match z_cls[a]? with
    | some r => decide (r.2.2 = b)
    | none => false)
  | .newarray t => decide (nx = pc + 2) && ((decide (t = .int) && decide (a = 0)) || (decide (t = .boolean) && decide (a = 1))) && decide (b ≤ 1000)
  | .anewarray v => decide (nx = pc + 3) && decide (own = 4) && decide (v = 23) && decide (b ≤ 1000)
  | .invokevirtual v => decide (nx = pc + 3) && decide ((own, v, a) ∈ z_ml) && decide ((a, b, c) ∈ z_vs)
  | .invokestatic v => decide (nx = pc + 3) && (decide ((own, v, a) ∈ z_ml) || decide ((own, v, a, RX4) ∈ z_nl)) && decide ((a, b, c) ∈ z_ss)
  | .invokespecial v => decide (nx = pc + 3) && ((decide (a = 0) && decide ((own, v, 0) ∈ z_ml) && decide (b = 1)) || (!decide (a = 0) && (decide ((own, v, a) ∈ z_ml) || decide ((own, v, a, RX4) ∈ z_nl)) && decide ((a, b, c) ∈ z_is)))
  | _ => decide (nx = pc + 1)
def z_crt (ret : Option FieldType) (i : Instr) : Bool := match i with
  | .ireturn => decide (ret = some .int) || decide (ret = some .boolean)
  | .lreturn => decide (ret = some .long)
  | .areturn => decide (ret = some (.object RX3))
  | .return_ => decide (ret = none)
  | _ => true
def z_chkM (M : Nat) : Bool := match z_my[M]?, z_tab[M]? with
  | some (own, y, cc, ml, ret), some (ml', rb, T) => decide (ml = ml') && decide (rb = decide (ret = some .boolean)) &&
    (List.range (16 * T.length)).all fun pc => match z_at T pc with
      | none => true
      | some (i, nx, a, b, c, x, y', sw) => decide (decode cc pc = .ok (i, nx - pc)) && z_crt ret i && z_chk own ml (decide (y.name = "<init>")) pc i nx a b c x y' sw
  | _, _ => false
