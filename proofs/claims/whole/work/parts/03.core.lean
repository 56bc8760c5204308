/-! ===== the small machine: values, two rows of cells, steps as what must hold next =====
A cell: a row of ints (0) or booleans (1) with its length; a row of references; an object (number of its class, fields). A reference below 1000 is a place in the first row of cells, from 1000 on in the second, 2000 is FACTORIAL, 2001 the script. -/
abbrev zC : Type := (Nat × Nat × (Nat → Int32)) ⊕ (List (Option Nat) ⊕ (Nat × List Value))
abbrev zH : Type := List zC × List zC
abbrev zL : Type := List (Option Value)
abbrev zS : Type := Nat × (Nat → Int32)
abbrev zR : Type := Instr × Nat × Nat × Nat × Nat × Int32 × Int64 × List (Int32 × Nat)
abbrev zX : Type := Nat → zL → List Value → zH → Nat → Nat → Prop
abbrev q0 (i : Instr) (nx : Nat) : Option zR := some (i, nx, 0, 0, 0, 0, 0, [])
abbrev q1 (i : Instr) (nx a : Nat) : Option zR := some (i, nx, a, 0, 0, 0, 0, [])
abbrev q3 (i : Instr) (nx a b c : Nat) : Option zR := some (i, nx, a, b, c, 0, 0, [])
abbrev qx (i : Instr) (nx : Nat) (x : Int32) : Option zR := some (i, nx, 0, 0, 0, x, 0, [])
abbrev qy (i : Instr) (nx : Nat) (y : Int64) : Option zR := some (i, nx, 0, 0, 0, 0, y, [])
abbrev qi (i : Instr) (nx a : Nat) (x : Int32) : Option zR := some (i, nx, a, 0, 0, x, 0, [])
abbrev qs (i : Instr) (nx a : Nat) (sw : List (Int32 × Nat)) : Option zR := some (i, nx, a, 0, 0, 0, 0, sw)
/-- the instruction at a pc -/
def z_at (T : List (List (Option zR))) (pc : Nat) : Option zR := match T[pc / 16]? with
  | some l => match l[pc % 16]? with
    | some r => r
    | none => none
  | none => none
def z_get (h : zH) (k : Nat) : Option zC := match Nat.ble 1000 k with
  | true => h.2[k - 1000]?
  | false => h.1[k]?
def z_set (h : zH) (k : Nat) (c : zC) : zH := match Nat.ble 1000 k with
  | true => (h.1, h.2.set (k - 1000) c)
  | false => (h.1.set k c, h.2)
def z_fac (j : Nat) : Int32 := match j with
  | 0 => 1
  | 1 => 1
  | 2 => 2
  | 3 => 6
  | 4 => 24
  | 5 => 120
  | _ => 720
def z_isl (v : Option Value) : Bool := match v with
  | some (.long _) => true
  | some (.double _) => true
  | _ => false
def z_cat (st : List Value) : Nat := (st.map fun v => v.category).sum
/-- are all references cells that are there -/
def z_okr (h : zH) (k : Nat) : Bool := (Nat.blt k h.1.length) || (Nat.ble 1000 k && Nat.blt k (1000 + h.2.length)) || Nat.ble 2000 k
def z_okv (h : zH) (v : Value) : Bool := match v with
  | .ref k => z_okr h k
  | _ => true
def z_oko (h : zH) (v : Option Value) : Bool := match v with
  | some v => z_okv h v
  | none => true
def z_okc (h : zH) (c : zC) : Bool := match c with
  | .inl _ => true
  | .inr (.inl l) => l.all fun q => match q with
    | some k => z_okr h k
    | none => true
  | .inr (.inr (_, fs)) => fs.all (z_okv h)
def z_wfh (h : zH) : Bool := h.1.all (z_okc h) && h.2.all (z_okc h)
def z_wf (h : zH) (ls : zL) (st : List Value) : Bool := z_wfh h && ls.all (z_oko h) && st.all (z_okv h)
/-- default fields of a class by its number -/
def z_dfl (ci : Nat) : List Value := match ci with
  | 0 => [.int 0, .null, .null, .null]
  | 1 => [.int 0, .null, .null, .int 0, .int 0, .int 0, .int 0, .int 0, .int 0]
  | 2 => [.int 0, .null, .null]
  | 3 => [.int 0, .int 0, .int 0, .int 0, .null, .null, .null, .null, .null, .null, .null, .null]
  | 4 => [.null, .null, .null, .null, .null, .null, .null, .null, .int 0, .long 0]
  | _ => [.null, .null, .null, .null, .null, .int 0, .null, .int 0, .int 0, .null, .int 0, .null, .null, .long 0, .int 0, .int 0, .int 0, .int 0]
def z_c0 (c : ClassFile.Cond) (v : Int32) : Prop := match c with
  | .eq => v = 0
  | .ne => ¬ v = 0
  | .lt => v < 0
  | .ge => 0 ≤ v
  | .gt => 0 < v
  | .le => v ≤ 0
def z_c2 (c : ClassFile.Cond) (v w : Int32) : Prop := match c with
  | .eq => v = w
  | .ne => ¬ v = w
  | .lt => v < w
  | .ge => w ≤ v
  | .gt => w < v
  | .le => v ≤ w
def z_sw (v : Int32) (d : Nat) (K : Nat → Prop) : List (Int32 × Nat) → Prop
  | [] => K d
  | (x, t) :: r => (v = x → K t) ∧ (¬ v = x → z_sw v d K r)
/-- what a field may take, by the kind of its type: 0 int, 1 boolean, 2 a reference, 3 long -/
def z_pf (c : Nat) (v : Value) (P : Prop) : Prop := match c, v with
  | 0, .int _ => P
  | 1, .int w => (w = 0 ∨ w = 1) ∧ P
  | 2, .ref _ => P
  | 3, .long _ => P
  | _, _ => False
def z_app (b : Nat) (st : List Value) (K : List Value → List Value → Prop) : Prop := match b, st with
  | 0, r => K [] r
  | 1, v0 :: r => K [v0] r
  | 2, v1 :: v0 :: r => K [v0, v1] r
  | 3, v2 :: v1 :: v0 :: r => K [v0, v1, v2] r
  | 4, v3 :: v2 :: v1 :: v0 :: r => K [v0, v1, v2, v3] r
  | 5, v4 :: v3 :: v2 :: v1 :: v0 :: r => K [v0, v1, v2, v3, v4] r
  | _, _ => False
def z_push (v : Option Value) (r : List Value) : List Value := match v with
  | some v => v :: r
  | none => r
/-- the receiver is an object of that class -/
def z_rcv (h : zH) (c : Nat) (As : List Value) : Bool := match As with
  | .ref q :: _ => match z_get h q with
    | some (.inr (.inr (ci, _))) => Nat.beq ci c
    | _ => false
  | _ => false
def z_new (h : zH) (c : Nat) (e : zC) (K : Nat → zH → Prop) : Prop := match c, h with
  | 0, (h1, []) => h1.length < 1000 ∧ K h1.length (h1 ++ [e], [])
  | 1, (h1, h2) => (h1.length ≤ 1000 ∧ h2.length < 1000) ∧ K (1000 + h2.length) (h1, h2 ++ [e])
  | _, _ => False
abbrev zQ : Type := Nat → Nat → Nat → List Value → zH → Option Value → zH → Prop
def z_call (C : zQ) (mc ms : Nat) (X : zX) (a nx : Nat) (ls : zL) (As r : List Value) (h : zH) (k n : Nat) : Prop :=
  (∃ (v : Option Value) (h' : zH), C 0 0 a As h v h' ∧ X nx ls (z_push v r) h' k n) ∨
  (∃ (v : Option Value) (h' : zH) (mc' ms' : Nat), C mc' ms' a As h v h' ∧ z_wf h ls r = true ∧ k + mc' ≤ mc ∧ n + ms' ≤ ms ∧ X nx ls (z_push v r) h' (k + mc') (n + ms'))
def z_k1 (st : List Value) (P : Int32 → List Value → Prop) : Prop := match st with
  | .int v :: r => P v r
  | _ => False
def z_k2 (st : List Value) (P : Int32 → Int32 → List Value → Prop) : Prop := match st with
  | .int w :: .int v :: r => P v w r
  | _ => False
def z_kll (st : List Value) (P : Int64 → Int64 → List Value → Prop) : Prop := match st with
  | .long w :: .long v :: r => P v w r
  | _ => False
def z_kr (st : List Value) (P : Nat → List Value → Prop) : Prop := match st with
  | .ref q :: r => P q r
  | _ => False
def z_kir (st : List Value) (P : Int32 → Nat → List Value → Prop) : Prop := match st with
  | .int j :: .ref q :: r => P j q r
  | _ => False
def z_kiir (st : List Value) (P : Int32 → Int32 → Nat → List Value → Prop) : Prop := match st with
  | .int v :: .int j :: .ref q :: r => P v j q r
  | _ => False
def z_krir (st : List Value) (P : Nat → Int32 → Nat → List Value → Prop) : Prop := match st with
  | .ref v :: .int j :: .ref q :: r => P v j q r
  | _ => False
def z_kvr (st : List Value) (P : Value → Nat → List Value → Prop) : Prop := match st with
  | v :: .ref q :: r => P v q r
  | _ => False
def z_kd1 (st : List Value) (P : Value → List Value → Prop) : Prop := match st with
  | .ref v :: r => P (.ref v) r
  | .int v :: r => P (.int v) r
  | _ => False
def z_li (ls : zL) (a : Nat) (P : Int32 → Prop) : Prop := match ls[a]? with
  | some (some (.int v)) => P v
  | _ => False
def z_la (ls : zL) (a : Nat) (P : Nat → Prop) : Prop := match ls[a]? with
  | some (some (.ref v)) => P v
  | _ => False
def z_ll (ls : zL) (a : Nat) (P : Int64 → Prop) : Prop := match ls[a]? with
  | some (some (.long v)) => P v
  | _ => False
def z_if (b : Bool) (P : Prop) : Prop := match b with
  | true => P
  | false => False
def z_hi (h : zH) (q t : Nat) (P : Nat → (Nat → Int32) → Prop) : Prop := match z_get h q with
  | some (.inl (t', m, f)) => z_if (Nat.beq t' t) (P m f)
  | _ => False
def z_hr (h : zH) (q : Nat) (P : List (Option Nat) → Prop) : Prop := match z_get h q with
  | some (.inr (.inl l)) => P l
  | _ => False
def z_ho (h : zH) (q ci : Nat) (P : List Value → Prop) : Prop := match z_get h q with
  | some (.inr (.inr (ci', fs))) => z_if (Nat.beq ci' ci) (P fs)
  | _ => False
def z_hs (S : zS) (h : zH) (q : Nat) (P : Nat → (Nat → Int32) → Prop) : Prop := match Nat.ble 2000 q with
  | true => match Nat.beq q 2000 with
    | true => P 7 z_fac
    | false => z_if (Nat.beq q 2001) (P S.1 S.2)
  | false => z_hi h q 0 P
def z_fd (fs : List Value) (b : Nat) (P : Value → Prop) : Prop := match fs[b]? with
  | some v => P v
  | none => False
def z_ret (st : List Value) (P : Value → Prop) : Prop := match st with
  | [v] => P v
  | _ => False
def z_ob (As : List Value) (P : Prop) : Prop := match As with
  | [.ref _] => P
  | _ => False
def z_isr (As : List Value) : Bool := match As with
  | .ref _ :: _ => true
  | _ => false
def z_sp (a : Nat) (P P' : Prop) : Prop := match Nat.beq a 0 with
  | true => P
  | false => P'
def z_ri (rb : Bool) (v : Value) (P : Option Value → Prop) : Prop := match v with
  | .int v => match rb with
    | true => (v = 0 ∨ v = 1) ∧ P (some (.int v))
    | false => P (some (.int v))
  | _ => False
def z_rl (v : Value) (P : Option Value → Prop) : Prop := match v with
  | .long v => P (some (.long v))
  | _ => False
def z_ra (v : Value) (P : Option Value → Prop) : Prop := match v with
  | .ref v => P (some (.ref v))
  | _ => False
def z_rv (st : List Value) (P : Prop) : Prop := match st with
  | [] => P
  | _ => False
/-- one step: what must hold for the machine to be well at this instruction -/
def z_stp (S : zS) (C : zQ) (rb : Bool) (mc ms : Nat) (X : zX) (Rt : Option Value → zH → Prop) (i : Instr) (nx a b c : Nat) (x : Int32) (y : Int64) (sw : List (Int32 × Nat)) (ls : zL) (st : List Value) (h : zH) (k n : Nat) : Prop :=
  match i with
  | .iconst _ => X nx ls (.int x :: st) h k n
  | .bipush _ => X nx ls (.int x :: st) h k n
  | .sipush _ => X nx ls (.int x :: st) h k n
  | .ldc _ => X nx ls (.int x :: st) h k n
  | .ldc_w _ => X nx ls (.int x :: st) h k n
  | .lconst _ => X nx ls (.long y :: st) h k n
  | .ldc2_w _ => X nx ls (.long y :: st) h k n
  | .iload_n _ => z_li ls a fun v => X nx ls (.int v :: st) h k n
  | .iload _ => z_li ls a fun v => X nx ls (.int v :: st) h k n
  | .aload_n _ => z_la ls a fun v => X nx ls (.ref v :: st) h k n
  | .aload _ => z_la ls a fun v => X nx ls (.ref v :: st) h k n
  | .lload_n _ => z_ll ls a fun v => X nx ls (.long v :: st) h k n
  | .lload _ => z_ll ls a fun v => X nx ls (.long v :: st) h k n
  | .istore_n _ => z_if (!ls.any z_isl) (z_k1 st fun v r => X nx (ls.set a (some (.int v))) r h k n)
  | .istore _ => z_if (!ls.any z_isl) (z_k1 st fun v r => X nx (ls.set a (some (.int v))) r h k n)
  | .astore_n _ => z_if (!ls.any z_isl) (z_kr st fun v r => X nx (ls.set a (some (.ref v))) r h k n)
  | .iinc _ _ => z_if (!ls.any z_isl) (z_li ls a fun v => X nx (ls.set a (some (.int (v + x)))) st h k n)
  | .iadd => z_k2 st fun v w r => X nx ls (.int (v + w) :: r) h k n
  | .isub => z_k2 st fun v w r => X nx ls (.int (v - w) :: r) h k n
  | .imul => z_k2 st fun v w r => X nx ls (.int (v * w) :: r) h k n
  | .idiv => z_k2 st fun v w r => ¬ w = 0 ∧ X nx ls (.int (v / w) :: r) h k n
  | .irem => z_k2 st fun v w r => ¬ w = 0 ∧ X nx ls (.int (v - v / w * w) :: r) h k n
  | .ineg => z_k1 st fun v r => X nx ls (.int (-v) :: r) h k n
  | .iand => z_k2 st fun v w r => X nx ls (.int (v &&& w) :: r) h k n
  | .ior => z_k2 st fun v w r => X nx ls (.int (v ||| w) :: r) h k n
  | .ixor => z_k2 st fun v w r => X nx ls (.int (v ^^^ w) :: r) h k n
  | .ishl => z_k2 st fun v w r => X nx ls (.int (v <<< (w &&& 31)) :: r) h k n
  | .ishr => z_k2 st fun v w r => X nx ls (.int (v >>> (w &&& 31)) :: r) h k n
  | .iushr => z_k2 st fun v w r => X nx ls (.int ((v.toUInt32 >>> (w.toUInt32 &&& Int32.toUInt32 31)).toInt32) :: r) h k n
  | .i2l => z_k1 st fun v r => X nx ls (.long v.toInt64 :: r) h k n
  | .ladd => z_kll st fun v w r => X nx ls (.long (v + w) :: r) h k n
  | .lcmp => z_kll st fun v w r => X nx ls (.int (lg_cmp v w) :: r) h k n
  | .dup => z_kd1 st fun v r => X nx ls (v :: v :: r) h k n
  | .dup2 => z_kir st fun w v r => X nx ls (.int w :: .ref v :: .int w :: .ref v :: r) h k n
  | .ifCond o _ => z_k1 st fun v r => (z_c0 o v → X a ls r h k n) ∧ (¬ z_c0 o v → X nx ls r h k n)
  | .if_icmp o _ => z_k2 st fun v w r => (z_c2 o v w → X a ls r h k n) ∧ (¬ z_c2 o v w → X nx ls r h k n)
  | .goto _ => X a ls st h k n
  | .tableswitch _ _ _ _ => z_k1 st fun v r => z_sw v a (fun t => X t ls r h k n) sw
  | .iaload => z_kir st fun j q r => z_hs S h q fun m f => vp_in j m ∧ X nx ls (.int (f j.toNatClampNeg) :: r) h k n
  | .iastore => z_kiir st fun v j q r => z_hi h q 0 fun m f => vp_in j m ∧ X nx ls r (z_set h q (.inl (0, m, upd f j.toNatClampNeg v))) k n
  | .baload => z_kir st fun j q r => z_hi h q 1 fun m f => vp_in j m ∧ X nx ls (.int (f j.toNatClampNeg) :: r) h k n
  | .bastore => z_kiir st fun v j q r => z_hi h q 1 fun m f => vp_in j m ∧ (v = 0 ∨ v = 1) ∧ X nx ls r (z_set h q (.inl (1, m, upd f j.toNatClampNeg v))) k n
  | .aaload => z_kir st fun j q r => z_hr h q fun l => vp_in j l.length ∧ ∃ t, l[j.toNatClampNeg]? = some (some t) ∧ X nx ls (.ref t :: r) h k n
  | .aastore => z_krir st fun v j q r => z_hr h q fun l => z_ho h v 2 fun _ => vp_in j l.length ∧ X nx ls r (z_set h q (.inr (.inl (l.set j.toNatClampNeg (some v))))) k n
  | .arraylength => z_kr st fun q r => z_hs S h q fun m _ => X nx ls (.int (Int32.ofNat m) :: r) h k n
  | .getfield _ => z_kr st fun q r => z_ho h q a fun fs => z_fd fs b fun v => X nx ls (v :: r) h k n
  | .putfield _ => z_kvr st fun v q r => z_ho h q a fun fs => z_if (Nat.blt b fs.length) (z_pf c v (X nx ls r (z_set h q (.inr (.inr (a, fs.set b v)))) k n))
  | .getstatic _ => X nx ls (.ref 2000 :: st) h k n
  | .new _ => z_wf h ls st = true ∧ k + 1 ≤ mc ∧ n + b ≤ ms ∧ z_new h c (.inr (.inr (a, z_dfl a))) (fun q h' => X nx ls (.ref q :: st) h' (k + 1) (n + b))
  | .newarray _ => z_k1 st fun v r => z_wf h ls r = true ∧ v = Int32.ofNat b ∧ k + 1 ≤ mc ∧ n + b ≤ ms ∧ z_new h c (.inl (a, b, fun _ => 0)) (fun q h' => X nx ls (.ref q :: r) h' (k + 1) (n + b))
  | .anewarray _ => z_k1 st fun v r => z_wf h ls r = true ∧ v = Int32.ofNat b ∧ k + 1 ≤ mc ∧ n + b ≤ ms ∧ z_new h c (.inr (.inl (List.replicate b none))) (fun q h' => X nx ls (.ref q :: r) h' (k + 1) (n + b))
  | .invokestatic _ => z_app b st fun As r => z_if (Nat.ble (z_cat r) 8) (z_call C mc ms X a nx ls As r h k n)
  | .invokevirtual _ => z_app b st fun As r => z_if (Nat.ble (z_cat r) 8) (z_if (z_rcv h c As) (z_call C mc ms X a nx ls As r h k n))
  | .invokespecial _ => z_app b st fun As r => z_if (Nat.ble (z_cat r) 8) (z_sp a (z_ob As (X nx ls r h k n)) (z_if (z_isr As) (z_call C mc ms X a nx ls As r h k n)))
  | .ireturn => z_ret st fun v => z_ri rb v fun w => Rt w h
  | .lreturn => z_ret st fun v => z_rl v fun w => Rt w h
  | .areturn => z_ret st fun v => z_ra v fun w => Rt w h
  | .return_ => z_rv st (Rt none h)
  | _ => False
def z_ent1 (args : List Value) : zL := args.flatMap fun v => match v with
  | .long w => [some (.long w), none]
  | .double w => [some (.double w), none]
  | v => [some v]
def z_ent (ml : Nat) (args : List Value) : zL := z_ent1 args ++ List.replicate (ml - (z_ent1 args).length) none
/-- X is shut under steps backward -/
def z_cl (S : zS) (C : zQ) (T : List (List (Option zR))) (rb : Bool) (mc ms : Nat) (Rt : Option Value → zH → Prop) (X : zX) : Prop :=
  ∀ (pc : Nat) (ls : zL) (st : List Value) (h : zH) (k n : Nat) (i : Instr) (nx a b c : Nat) (x : Int32) (y : Int64) (sw : List (Int32 × Nat)), z_at T pc = some (i, nx, a, b, c, x, y, sw) → z_stp S C rb mc ms X Rt i nx a b c x y sw ls st h k n → X pc ls st h k n
