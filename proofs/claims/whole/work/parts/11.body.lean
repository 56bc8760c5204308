section ZB
variable {p : Program} {l : Launch} {e : Env} {R : Room} {s : State} {m : MethodId} {args : Array Value} {below : List Frame} {meth : Method} {c : Code} {Q : State → Prop}
theorem z_app_of {b : Nat} {st : List Value} {K : List Value → List Value → Prop} (h : z_app b st K) : ∃ As r, st = As.reverse ++ r ∧ As.length = b ∧ K As r := by
  unfold z_app at h
  split at h
  · exact ⟨[], _, rfl, rfl, h⟩
  · exact ⟨[_], _, rfl, rfl, h⟩
  · exact ⟨[_, _], _, rfl, rfl, h⟩
  · exact ⟨[_, _, _], _, rfl, rfl, h⟩
  · exact ⟨[_, _, _, _], _, rfl, rfl, h⟩
  · exact ⟨[_, _, _, _, _], _, rfl, rfl, h⟩
  · exact h.elim
theorem z_cat_map (ad : Nat → Nat) (r : List Value) : ((r.map (z_tv ad)).map fun v => v.category).sum = z_cat r := by
  unfold z_cat
  rw [List.map_map]
  congr 1
  exact List.map_congr_left fun v _ => z_cat_tv ad v
theorem z_free {D : va_G} {dA : Nat → ClassId} {A : Nat → Prop} {h0 h : zH} {ad0 ad : Nat → Nat} {ml k : Nat} {ls : zL} {H : Heap} {locs : List Loc} {lsC : Array Slot} (hA : ∀ q, s.heap.size ≤ q → A q) (hR : z_rel D dA A s h0 ad0 ml ls h k ad H locs lsC) : ∀ q, va_A (z_tw dA ad h) H.size q → A q := by
  intro q hq
  rcases hq with ⟨j, e1, hj⟩ | hq
  · exact hR.2.2.2.2.1.2 j _ hj
  · exact hA q (Nat.le_trans hR.2.2.2.2.2.1.1 hq)
/-- what the callee is given -/
theorem z_given {D : va_G} {dA : Nat → ClassId} {A : Nat → Prop} {S : zS} {h0 h : zH} {ad0 ad : Nat → Nat} {ml k : Nat} {ls : zL} {H : Heap} {locs : List Loc} {lsC : Array Slot} (As : List Value) (hK : z_K D dA s) (hZ : z_Z S (ad0 2000) (ad0 2001) A s s.heap) (hA : ∀ q, s.heap.size ≤ q → A q) (hR : z_rel D dA A s h0 ad0 ml ls h k ad H locs lsC) (U : State) (hU : U.heap = H) (hW : s.WarmedH U.vm) : z_Pc D dA S ad H.size As h (As.map (z_tv ad)).toArray U := by
  refine ⟨rfl, by rw [hU], by rw [hU]; exact hR.2.2.2.1, hR.2.2.2.2.1.weaken (fun _ _ _ _ => trivial), hK.warm hW, ?_⟩
  have e0 : ad 2000 = ad0 2000 := hR.1 _ (z_okr_iff.mpr (Or.inr (Or.inr (by decide))))
  have e1 : ad 2001 = ad0 2001 := hR.1 _ (z_okr_iff.mpr (Or.inr (Or.inr (by decide))))
  rw [e0, e1, hU]
  have h1 := hZ.kept (H1 := H) (fun a h1 h2 => hR.2.2.2.2.2.1.2.1 a h1 h2)
  exact (h1.narrow (z_free hA hR)).moved hW.alike
theorem z_after {D : va_G} {dA : Nat → ClassId} {A : Nat → Prop} {h0 h h' : zH} {ad0 ad : Nat → Nat} {ml k n mc ms mc' ms' pc nx : Nat} {ls : zL} {H : Heap} {locs : List Loc} {lsC : Array Slot} {v : Option Value} {r : List Value} {st0 : List Value} (hA : ∀ q, s.heap.size ≤ q → A q) (hR : z_rel D dA A s h0 ad0 ml ls h k ad H locs lsC) (hwf : mc' = 0 ∨ z_wf h ls r = true) (hnx : nx = pc + 3) (hk : k + mc' ≤ mc) (hn : n + ms' ≤ ms)
    (hrun : va_Run p l e R s m args below meth c H locs k n mc' ms' (F0 m pc lsC st0) (r.map (z_tv ad)) (fun st oc t => (∃ w, oc = .returned w ∧ z_Po D dA ad H.size h mc' v h' w t.heap) ∧ va_F (va_A (z_tw dA ad h) H.size) st t) (va_A (z_tw dA ad h) H.size))
    (hs : z_XW p l e R s m args below meth c Q D dA A h0 ad0 mc ms ml nx ls (z_push v r) h' (k + mc') (n + ms')) : W p l e R s m args below meth c H locs k n Q (F0 m pc lsC st0) := by
  have hF := z_free hA hR
  refine z_wcall hrun hR.2.2.2.2.2.1 (fun q _ hq => hF q hq) hF (fun w H1 locs1 hPo hS1 => ?_)
  obtain ⟨ad', hw, ha, h0', hlen, hP1, hD1⟩ := hPo
  have hst : r.map (z_tv ad') = r.map (z_tv ad) ∧ z_lr ad' ml ls lsC := by
    rcases hwf with h1 | h1
    · rw [h0' h1]; exact ⟨rfl, hR.lr⟩
    · unfold z_wf at h1
      simp only [Bool.and_eq_true] at h1
      exact ⟨z_tvs_congr ha h1.2, z_lr_congr ha h1.1.2 hR.lr⟩
  have hrel : z_rel D dA A s h0 ad0 ml ls h' (k + mc') ad' H1 locs1 lsC := by
    refine ⟨fun x hx => ?_, fun hz => ?_, ⟨Nat.le_trans hR.2.2.1.1 hlen.1, Nat.le_trans hR.2.2.1.2 hlen.2⟩, hP1, hD1.weaken (fun _ q _ hq => hF q.1 hq), hS1, hst.2⟩
    · have hx' : z_okr h x = true := by
        rw [z_okr_iff] at hx ⊢
        have := hR.2.2.1
        omega
      rw [ha x hx']
      exact hR.1 x hx
    · rw [h0' (by omega)]
      exact hR.2.1 (by omega)
  have := hs hk hn ad' H1 locs1 lsC hrel
  rw [← hst.1, hw, ← hnx]
  cases v with
  | none => exact this
  | some v => exact this
theorem z_call_of {S : zS} {d mc ms a nx k n : Nat} {X : zX} {ls : zL} {As r : List Value} {h : zH} (hk : k ≤ mc) (hn : n ≤ ms) (hs : z_call (Ex S d) mc ms X a nx ls As r h k n) : ∃ (v : Option Value) (h' : zH) (mc' ms' : Nat), Ex S d mc' ms' a As h v h' ∧ (mc' = 0 ∨ z_wf h ls r = true) ∧ k + mc' ≤ mc ∧ n + ms' ≤ ms ∧ X nx ls (z_push v r) h' (k + mc') (n + ms') := by
  rcases hs with ⟨v, h', h1, h2⟩ | ⟨v, h', mc', ms', h1, h2, h3, h4, h5⟩
  · exact ⟨v, h', 0, 0, h1, Or.inl rfl, hk, hn, h2⟩
  · exact ⟨v, h', mc', ms', h1, Or.inr h2, h3, h4, h5⟩
theorem z_rcv_of {h : zH} {cd : Nat} {As : List Value} (hh : z_rcv h cd As = true) : ∃ q As' fs, As = .ref q :: As' ∧ z_get h q = some (.inr (.inr (cd, fs))) := by
  unfold z_rcv at hh
  split at hh
  · split at hh
    · have := Nat.eq_of_beq_eq_true hh
      subst this
      exact ⟨_, _, _, rfl, ‹_›⟩
    · cases hh
  · cases hh
end ZB
