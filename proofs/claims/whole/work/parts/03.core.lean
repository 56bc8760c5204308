/-! ===== the small machine: values, two rows of cells, steps as what must hold next =====
A cell: a row of ints (0) or booleans (1) with its length; a row of references; an object (number of its class, fields). A reference below 1000 is a place in the first row of cells, from 1000 on in the second, 2000 is FACTORIAL, 2001 the script. -/
abbrev zC : Type := (Nat × Nat × (Nat → Int32)) ⊕ ((Nat × (Nat → Option Nat)) ⊕ (Nat × List Value))
abbrev zH : Type := List zC × List zC
abbrev zL : Type := List (Option Value)
abbrev zS : Type := Nat × (Nat → Int32)
abbrev zR : Type := Instr × Nat × Nat × Nat × Nat × Int32 × Int64 × List (Int32 × Nat)
abbrev zX : Type := Nat → zL → List Value → zH → Nat → Nat → Prop
abbrev q0 (i : Instr) (nx : Nat) : Option zR := some (i, nx, 0, 0, 0, 0, 0, [])
abbrev q1 (i : Instr) (nx a : Nat) : Option zR := some (i, nx, a, 0, 0, 0, 0, [])
abbrev q3 (i : Instr) (nx a b c : Nat) : Option zR := some (i, nx, a, b, c, 0, 0, [])
abbrev qx (i : Instr) (nx : Nat) (x : Int32) : Option zR := some (i, nx, 0, 0, 0, x, 0, [])
abbrev qy (i : Instr) (nx : Nat) (y : Int64) : Option zR := some (i, nx, 0, 0, 0, 0, y, [])
abbrev qi (i : Instr) (nx a : Nat) (x : Int32) : Option zR := some (i, nx, a, 0, 0, x, 0, [])
abbrev qs (i : Instr) (nx a : Nat) (sw : List (Int32 × Nat)) : Option zR := some (i, nx, a, 0, 0, 0, 0, sw)
/-- the instruction at a pc -/
def z_at (T : List (List (Option zR))) (pc : Nat) : Option zR := match T[pc / 16]? with
  | some l => match l[pc % 16]? with
    | some r => r
    | none => none
  | none => none
def z_get (h : zH) (k : Nat) : Option zC := match Nat.ble 1000 k with
  | true => h.2[k - 1000]?
  | false => h.1[k]?
def z_set (h : zH) (k : Nat) (c : zC) : zH := match Nat.ble 1000 k with
  | true => (h.1, h.2.set (k - 1000) c)
  | false => (h.1.set k c, h.2)
def z_fac (j : Nat) : Int32 := match j with
  | 0 => 1
  | 1 => 1
  | 2 => 2
  | 3 => 6
  | 4 => 24
  | 5 => 120
  | _ => 720
/-- a row of ints that may be read -/
def z_row (S : zS) (h : zH) (k : Nat) : Option zS := match Nat.ble 2000 k with
  | true => match Nat.beq k 2000 with
    | true => some (7, z_fac)
    | false => some S
  | false => match z_get h k with
    | some (.inl (0, n, f)) => some (n, f)
    | _ => none
def z_isl (v : Option Value) : Bool := match v with
  | some (.long _) => true
  | _ => false
def z_cat (st : List Value) : Nat := (st.map fun v => v.category).sum
/-- are all references cells that are there -/
def z_okr (h : zH) (k : Nat) : Bool := (Nat.blt k h.1.length) || (Nat.ble 1000 k && Nat.blt k (1000 + h.2.length)) || Nat.ble 2000 k
def z_okv (h : zH) (v : Value) : Bool := match v with
  | .ref k => z_okr h k
  | _ => true
def z_oko (h : zH) (v : Option Value) : Bool := match v with
  | some v => z_okv h v
  | none => true
def z_okc (h : zH) (c : zC) : Bool := match c with
  | .inl _ => true
  | .inr (.inl (n, f)) => (List.range n).all fun j => match f j with
    | some k => z_okr h k
    | none => true
  | .inr (.inr (_, fs)) => fs.all (z_okv h)
def z_wfh (h : zH) : Bool := h.1.all (z_okc h) && h.2.all (z_okc h)
def z_wf (h : zH) (ls : zL) (st : List Value) : Bool := z_wfh h && ls.all (z_oko h) && st.all (z_okv h)
/-- default fields of a class by its number -/
def z_dfl (ci : Nat) : List Value := match ci with
  | 0 => [.int 0, .null, .null, .null]
  | 1 => [.int 0, .null, .null, .int 0, .int 0, .int 0, .int 0, .int 0, .int 0]
  | 2 => [.int 0, .null, .null]
  | 3 => [.int 0, .int 0, .int 0, .int 0, .null, .null, .null, .null, .null, .null, .null, .null]
  | 4 => [.null, .null, .null, .null, .null, .null, .null, .null, .int 0, .long 0]
  | _ => [.null, .null, .null, .null, .null, .int 0, .null, .int 0, .int 0, .null, .int 0, .null, .null, .long 0, .int 0, .int 0, .int 0, .int 0]
def z_c0 (c : ClassFile.Cond) (v : Int32) : Prop := match c with
  | .eq => v = 0
  | .ne => ¬ v = 0
  | .lt => v < 0
  | .ge => 0 ≤ v
  | .gt => 0 < v
  | .le => v ≤ 0
def z_c2 (c : ClassFile.Cond) (v w : Int32) : Prop := match c with
  | .eq => v = w
  | .ne => ¬ v = w
  | .lt => v < w
  | .ge => w ≤ v
  | .gt => w < v
  | .le => v ≤ w
def z_sw (v : Int32) (d : Nat) (K : Nat → Prop) : List (Int32 × Nat) → Prop
  | [] => K d
  | (x, t) :: r => (v = x → K t) ∧ (¬ v = x → z_sw v d K r)
/-- what a field may take, by the kind of its type: 0 int, 1 boolean, 2 a reference, 3 long -/
def z_pf (c : Nat) (v : Value) (P : Prop) : Prop := match c, v with
  | 0, .int _ => P
  | 1, .int w => (w = 0 ∨ w = 1) ∧ P
  | 2, .ref _ => P
  | 3, .long _ => P
  | _, _ => False
def z_app (b : Nat) (st : List Value) (K : List Value → List Value → Prop) : Prop := match b, st with
  | 0, r => K [] r
  | 1, v0 :: r => K [v0] r
  | 2, v1 :: v0 :: r => K [v0, v1] r
  | 3, v2 :: v1 :: v0 :: r => K [v0, v1, v2] r
  | 4, v3 :: v2 :: v1 :: v0 :: r => K [v0, v1, v2, v3] r
  | 5, v4 :: v3 :: v2 :: v1 :: v0 :: r => K [v0, v1, v2, v3, v4] r
  | _, _ => False
def z_push (v : Option Value) (r : List Value) : List Value := match v with
  | some v => v :: r
  | none => r
/-- the receiver is an object of that class -/
def z_rcv (h : zH) (c : Nat) (As : List Value) : Bool := match As with
  | .ref q :: _ => match z_get h q with
    | some (.inr (.inr (ci, _))) => Nat.beq ci c
    | _ => false
  | _ => false
def z_new (h : zH) (c : Nat) (e : zC) (K : Nat → zH → Prop) : Prop := match c, h with
  | 0, (h1, []) => h1.length < 1000 ∧ K h1.length (h1 ++ [e], [])
  | 1, (h1, h2) => h2.length < 1000 ∧ K (1000 + h2.length) (h1, h2 ++ [e])
  | _, _ => False
abbrev zQ : Type := Nat → Nat → Nat → List Value → zH → Option Value → zH → Prop
def z_call (C : zQ) (mc ms : Nat) (X : zX) (a nx : Nat) (ls : zL) (As r : List Value) (h : zH) (k n : Nat) : Prop :=
  (∃ (v : Option Value) (h' : zH), C 0 0 a As h v h' ∧ X nx ls (z_push v r) h' k n) ∨
  (∃ (v : Option Value) (h' : zH) (mc' ms' : Nat), C mc' ms' a As h v h' ∧ z_wf h ls r = true ∧ k + mc' ≤ mc ∧ n + ms' ≤ ms ∧ X nx ls (z_push v r) h' (k + mc') (n + ms'))
/-- one step: what must hold for the machine to be well at this instruction -/
def z_stp (S : zS) (C : zQ) (rb : Bool) (mc ms : Nat) (X : zX) (Rt : Option Value → zH → Prop) (i : Instr) (nx a b c : Nat) (x : Int32) (y : Int64) (sw : List (Int32 × Nat)) (ls : zL) (st : List Value) (h : zH) (k n : Nat) : Prop :=
  match i with
  | .iconst _ => X nx ls (.int x :: st) h k n
  | .bipush _ => X nx ls (.int x :: st) h k n
  | .sipush _ => X nx ls (.int x :: st) h k n
  | .ldc _ => X nx ls (.int x :: st) h k n
  | .ldc_w _ => X nx ls (.int x :: st) h k n
  | .lconst _ => X nx ls (.long y :: st) h k n
  | .ldc2_w _ => X nx ls (.long y :: st) h k n
  | .iload_n _ => match ls[a]? with
    | some (some (.int v)) => X nx ls (.int v :: st) h k n
    | _ => False
  | .iload _ => match ls[a]? with
    | some (some (.int v)) => X nx ls (.int v :: st) h k n
    | _ => False
  | .aload_n _ => match ls[a]? with
    | some (some (.ref v)) => X nx ls (.ref v :: st) h k n
    | _ => False
  | .aload _ => match ls[a]? with
    | some (some (.ref v)) => X nx ls (.ref v :: st) h k n
    | _ => False
  | .lload_n _ => match ls[a]? with
    | some (some (.long v)) => X nx ls (.long v :: st) h k n
    | _ => False
  | .lload _ => match ls[a]? with
    | some (some (.long v)) => X nx ls (.long v :: st) h k n
    | _ => False
  | .istore_n _ => match ls.any z_isl, st with
    | false, .int v :: r => X nx (ls.set a (some (.int v))) r h k n
    | _, _ => False
  | .istore _ => match ls.any z_isl, st with
    | false, .int v :: r => X nx (ls.set a (some (.int v))) r h k n
    | _, _ => False
  | .astore_n _ => match ls.any z_isl, st with
    | false, .ref v :: r => X nx (ls.set a (some (.ref v))) r h k n
    | _, _ => False
  | .iinc _ _ => match ls.any z_isl, ls[a]? with
    | false, some (some (.int v)) => X nx (ls.set a (some (.int (v + x)))) st h k n
    | _, _ => False
  | .iadd => match st with
    | .int w :: .int v :: r => X nx ls (.int (v + w) :: r) h k n
    | _ => False
  | .isub => match st with
    | .int w :: .int v :: r => X nx ls (.int (v - w) :: r) h k n
    | _ => False
  | .imul => match st with
    | .int w :: .int v :: r => X nx ls (.int (v * w) :: r) h k n
    | _ => False
  | .idiv => match st with
    | .int w :: .int v :: r => ¬ w = 0 ∧ X nx ls (.int (v / w) :: r) h k n
    | _ => False
  | .irem => match st with
    | .int w :: .int v :: r => ¬ w = 0 ∧ X nx ls (.int (v - v / w * w) :: r) h k n
    | _ => False
  | .ineg => match st with
    | .int v :: r => X nx ls (.int (-v) :: r) h k n
    | _ => False
  | .iand => match st with
    | .int w :: .int v :: r => X nx ls (.int (v &&& w) :: r) h k n
    | _ => False
  | .ior => match st with
    | .int w :: .int v :: r => X nx ls (.int (v ||| w) :: r) h k n
    | _ => False
  | .ixor => match st with
    | .int w :: .int v :: r => X nx ls (.int (v ^^^ w) :: r) h k n
    | _ => False
  | .ishl => match st with
    | .int w :: .int v :: r => X nx ls (.int (v <<< (w &&& 31)) :: r) h k n
    | _ => False
  | .ishr => match st with
    | .int w :: .int v :: r => X nx ls (.int (v >>> (w &&& 31)) :: r) h k n
    | _ => False
  | .iushr => match st with
    | .int w :: .int v :: r => X nx ls (.int ((v.toUInt32 >>> (w.toUInt32 &&& Int32.toUInt32 31)).toInt32) :: r) h k n
    | _ => False
  | .i2l => match st with
    | .int v :: r => X nx ls (.long v.toInt64 :: r) h k n
    | _ => False
  | .ladd => match st with
    | .long w :: .long v :: r => X nx ls (.long (v + w) :: r) h k n
    | _ => False
  | .lcmp => match st with
    | .long w :: .long v :: r => X nx ls (.int (lg_cmp v w) :: r) h k n
    | _ => False
  | .dup => match st with
    | .ref v :: r => X nx ls (.ref v :: .ref v :: r) h k n
    | .int v :: r => X nx ls (.int v :: .int v :: r) h k n
    | _ => False
  | .dup2 => match st with
    | .int w :: .ref v :: r => X nx ls (.int w :: .ref v :: .int w :: .ref v :: r) h k n
    | _ => False
  | .ifCond o _ => match st with
    | .int v :: r => (z_c0 o v → X a ls r h k n) ∧ (¬ z_c0 o v → X nx ls r h k n)
    | _ => False
  | .if_icmp o _ => match st with
    | .int w :: .int v :: r => (z_c2 o v w → X a ls r h k n) ∧ (¬ z_c2 o v w → X nx ls r h k n)
    | _ => False
  | .goto _ => X a ls st h k n
  | .tableswitch _ _ _ _ => match st with
    | .int v :: r => z_sw v a (fun t => X t ls r h k n) sw
    | _ => False
  | .iaload => match st with
    | .int j :: .ref q :: r => match z_row S h q with
      | some (m, f) => vp_in j m ∧ X nx ls (.int (f j.toNatClampNeg) :: r) h k n
      | none => False
    | _ => False
  | .iastore => match st with
    | .int v :: .int j :: .ref q :: r => match z_get h q with
      | some (.inl (0, m, f)) => vp_in j m ∧ X nx ls r (z_set h q (.inl (0, m, upd f j.toNatClampNeg v))) k n
      | _ => False
    | _ => False
  | .baload => match st with
    | .int j :: .ref q :: r => match z_get h q with
      | some (.inl (1, m, f)) => vp_in j m ∧ X nx ls (.int (f j.toNatClampNeg) :: r) h k n
      | _ => False
    | _ => False
  | .bastore => match st with
    | .int v :: .int j :: .ref q :: r => match z_get h q with
      | some (.inl (1, m, f)) => vp_in j m ∧ (v = 0 ∨ v = 1) ∧ X nx ls r (z_set h q (.inl (1, m, upd f j.toNatClampNeg v))) k n
      | _ => False
    | _ => False
  | .aaload => match st with
    | .int j :: .ref q :: r => match z_get h q with
      | some (.inr (.inl (m, f))) => vp_in j m ∧ ∃ t, f j.toNatClampNeg = some t ∧ X nx ls (.ref t :: r) h k n
      | _ => False
    | _ => False
  | .aastore => match st with
    | .ref v :: .int j :: .ref q :: r => match z_get h q, z_get h v with
      | some (.inr (.inl (m, f))), some (.inr (.inr (2, _))) => vp_in j m ∧ X nx ls r (z_set h q (.inr (.inl (m, va_up f j.toNatClampNeg (some v))))) k n
      | _, _ => False
    | _ => False
  | .arraylength => match st with
    | .ref q :: r => match z_row S h q with
      | some (m, _) => X nx ls (.int (Int32.ofNat m) :: r) h k n
      | none => False
    | _ => False
  | .getfield _ => match st with
    | .ref q :: r => match z_get h q with
      | some (.inr (.inr (ci, fs))) => match Nat.beq ci a, fs[b]? with
        | true, some v => X nx ls (v :: r) h k n
        | _, _ => False
      | _ => False
    | _ => False
  | .putfield _ => match st with
    | v :: .ref q :: r => match z_get h q with
      | some (.inr (.inr (ci, fs))) => match Nat.beq ci a, Nat.blt b fs.length with
        | true, true => z_pf c v (X nx ls r (z_set h q (.inr (.inr (ci, fs.set b v)))) k n)
        | _, _ => False
      | _ => False
    | _ => False
  | .getstatic _ => X nx ls (.ref 2000 :: st) h k n
  | .new _ => z_wf h ls st = true ∧ k + 1 ≤ mc ∧ n + b ≤ ms ∧ z_new h c (.inr (.inr (a, z_dfl a))) (fun q h' => X nx ls (.ref q :: st) h' (k + 1) (n + b))
  | .newarray _ => match st with
    | .int v :: r => z_wf h ls r = true ∧ v = Int32.ofNat b ∧ k + 1 ≤ mc ∧ n + b ≤ ms ∧ z_new h c (.inl (a, b, fun _ => 0)) (fun q h' => X nx ls (.ref q :: r) h' (k + 1) (n + b))
    | _ => False
  | .anewarray _ => match st with
    | .int v :: r => z_wf h ls r = true ∧ v = Int32.ofNat b ∧ k + 1 ≤ mc ∧ n + b ≤ ms ∧ z_new h c (.inr (.inl (b, fun _ => none))) (fun q h' => X nx ls (.ref q :: r) h' (k + 1) (n + b))
    | _ => False
  | .invokestatic _ => z_app b st (fun As r => match Nat.ble (z_cat r) 8 with
    | true => z_call C mc ms X a nx ls As r h k n
    | false => False)
  | .invokevirtual _ => z_app b st (fun As r => match Nat.ble (z_cat r) 8, z_rcv h c As with
    | true, true => z_call C mc ms X a nx ls As r h k n
    | _, _ => False)
  | .invokespecial _ => z_app b st (fun As r => match Nat.ble (z_cat r) 8, As with
    | true, .ref q :: As' => match Nat.beq a 0 with
      | true => X nx ls r h k n
      | false => z_call C mc ms X a nx ls (.ref q :: As') r h k n
    | _, _ => False)
  | .ireturn => match st with
    | [.int v] => match rb with
      | true => (v = 0 ∨ v = 1) ∧ Rt (some (.int v)) h
      | false => Rt (some (.int v)) h
    | _ => False
  | .lreturn => match st with
    | [.long v] => Rt (some (.long v)) h
    | _ => False
  | .areturn => match st with
    | [.ref q] => Rt (some (.ref q)) h
    | _ => False
  | .return_ => match st with
    | [] => Rt none h
    | _ => False
  | _ => False
def z_ent1 (args : List Value) : zL := args.flatMap fun v => match v with
  | .long w => [some (.long w), none]
  | v => [some v]
def z_ent (ml : Nat) (args : List Value) : zL := z_ent1 args ++ List.replicate (ml - (z_ent1 args).length) none
/-- X is shut under steps backward -/
def z_cl (S : zS) (C : zQ) (T : List (List (Option zR))) (rb : Bool) (mc ms : Nat) (Rt : Option Value → zH → Prop) (X : zX) : Prop :=
  ∀ (pc : Nat) (ls : zL) (st : List Value) (h : zH) (k n : Nat) (i : Instr) (nx a b c : Nat) (x : Int32) (y : Int64) (sw : List (Int32 × Nat)), z_at T pc = some (i, nx, a, b, c, x, y, sw) → z_stp S C rb mc ms X Rt i nx a b c x y sw ls st h k n → X pc ls st h k n
