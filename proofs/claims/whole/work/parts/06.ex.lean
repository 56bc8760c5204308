def z_inf (M : Nat) : Nat × Bool × List (List (Option zR)) := match z_tab[M]? with
  | some q => q
  | none => (0, false, [])
/-- a method's run: with at most mc new cells of ms slots, calls at most d deep -/
def Ex (S : zS) : Nat → zQ
  | 0 => fun _ _ _ _ _ _ _ => False
  | d + 1 => fun mc ms M args h v h' => Nat.ble (z_ent1 args).length (z_inf M).1 = true ∧ ∀ X : zX, z_cl S (Ex S d) (z_inf M).2.2 (z_inf M).2.1 mc ms (fun v' g' => v' = v ∧ g' = h') X → X 0 (z_ent (z_inf M).1 args) [] h 0 0
theorem exI {S : zS} {d mc ms M ml : Nat} {rb : Bool} {T : List (List (Option zR))} {args : List Value} {h : zH} {v : Option Value} {h' : zH} (hM : z_inf M = (ml, rb, T)) (hl : Nat.ble (z_ent1 args).length ml = true) (H : ∀ X : zX, z_cl S (Ex S d) T rb mc ms (fun v' g' => v' = v ∧ g' = h') X → X 0 (z_ent ml args) [] h 0 0) : Ex S (d + 1) mc ms M args h v h' := by
  refine ⟨by rw [hM]; exact hl, fun X hX => ?_⟩
  have := H X (by rw [hM] at hX; exact hX)
  rw [hM]
  exact this
