def b2i (b : Bool) : Int32 := if b then 1 else 0
def zhas (set i : Int32) : Bool := (set >>> (i &&& 31)) &&& 1 == 1
theorem ex_has (S : zS) (d : Nat) (h : zH) (set i : Int32) : Ex S (d + 1) 0 0 82 [.int set, .int i] h (some (.int (b2i (zhas set i)))) h := by
  refine exI rfl ?_
  intro X hX
  repeat refine hX _ _ _ _ _ _ _ _ _ _ _ _ _ _ rfl ?_
  refine ⟨fun hc => ?_, fun hc => ?_⟩
  · repeat refine hX _ _ _ _ _ _ _ _ _ _ _ _ _ _ rfl ?_
    trace_state
    sorry
  · repeat refine hX _ _ _ _ _ _ _ _ _ _ _ _ _ _ rfl ?_
    trace_state
    sorry
