theorem i_empty1 (S : zS) (d : Nat) : Ex S (d + 1) 0 0 27 [.ref 3] ([.inr (.inr (4, [.null, .null, .null, .null, .null, .null, .null, .null, .int 0, .long 0])), .inr (.inr (1, [.int 0, .ref 2, .null, .int 0, .int 0, .int 0, .int 0, .int 0, .int 0])), .inl (0, 150, (fun _ => 0)), .inr (.inr (3, [.int 0, .int 0, .int 0, .int 0, .ref 4, .ref 5, .ref 6, .ref 7, .ref 8, .ref 9, .ref 10, .ref 11])), .inl (0, 6, (fun _ => 0)), .inl (0, 6, (fun _ => 0)), .inl (0, 6, (fun _ => 0)), .inl (0, 6, (fun _ => 0)), .inl (0, 6, (fun _ => 0)), .inl (0, 6, (fun _ => 0)), .inl (0, 6, (fun _ => 0)), .inl (0, 6, (fun _ => 0))], []) none ([.inr (.inr (4, [.null, .null, .null, .null, .null, .null, .null, .null, .int 0, .long 0])), .inr (.inr (1, [.int 0, .ref 2, .null, .int 0, .int 0, .int 0, .int 0, .int 0, .int 0])), .inl (0, 150, (fun _ => 0)), .inr (.inr (3, [.int 6, .int 1, .int 0, .int 0, .ref 4, .ref 5, .ref 6, .ref 7, .ref 8, .ref 9, .ref 10, .ref 11])), .inl (0, 6, (fun _ => 0)), .inl (0, 6, (fun _ => 0)), .inl (0, 6, (fun _ => 0)), .inl (0, 6, (fun _ => 0)), .inl (0, 6, (fun _ => 0)), .inl (0, 6, (fun _ => 0)), .inl (0, 6, (fun _ => 0)), .inl (0, 6, (fun _ => 0))], []) := by
  (refine exI rfl rfl ?_; intro X hX)
  repeat refine hX _ _ _ _ _ _ _ _ _ _ _ _ _ _ rfl ?_
  exact ⟨rfl, rfl⟩
theorem i_town1 (S : zS) (d : Nat) : Ex S (d + 2) 8 48 26 [.ref 3] ([.inr (.inr (4, [.null, .null, .null, .null, .null, .null, .null, .null, .int 0, .long 0])), .inr (.inr (1, [.int 0, .ref 2, .null, .int 0, .int 0, .int 0, .int 0, .int 0, .int 0])), .inl (0, 150, (fun _ => 0)), .inr (.inr (3, [.int 0, .int 0, .int 0, .int 0, .null, .null, .null, .null, .null, .null, .null, .null]))], []) none ([.inr (.inr (4, [.null, .null, .null, .null, .null, .null, .null, .null, .int 0, .long 0])), .inr (.inr (1, [.int 0, .ref 2, .null, .int 0, .int 0, .int 0, .int 0, .int 0, .int 0])), .inl (0, 150, (fun _ => 0)), .inr (.inr (3, [.int 6, .int 1, .int 0, .int 0, .ref 4, .ref 5, .ref 6, .ref 7, .ref 8, .ref 9, .ref 10, .ref 11])), .inl (0, 6, (fun _ => 0)), .inl (0, 6, (fun _ => 0)), .inl (0, 6, (fun _ => 0)), .inl (0, 6, (fun _ => 0)), .inl (0, 6, (fun _ => 0)), .inl (0, 6, (fun _ => 0)), .inl (0, 6, (fun _ => 0)), .inl (0, 6, (fun _ => 0))], []) := by
  (refine exI rfl rfl ?_; intro X hX)
  repeat refine hX _ _ _ _ _ _ _ _ _ _ _ _ _ _ rfl ?_
  refine ⟨rfl, rfl, by decide, by decide, by decide, ?_⟩
  repeat refine hX _ _ _ _ _ _ _ _ _ _ _ _ _ _ rfl ?_
  refine ⟨rfl, rfl, by decide, by decide, by decide, ?_⟩
  repeat refine hX _ _ _ _ _ _ _ _ _ _ _ _ _ _ rfl ?_
  refine ⟨rfl, rfl, by decide, by decide, by decide, ?_⟩
  repeat refine hX _ _ _ _ _ _ _ _ _ _ _ _ _ _ rfl ?_
  refine ⟨rfl, rfl, by decide, by decide, by decide, ?_⟩
  repeat refine hX _ _ _ _ _ _ _ _ _ _ _ _ _ _ rfl ?_
  refine ⟨rfl, rfl, by decide, by decide, by decide, ?_⟩
  repeat refine hX _ _ _ _ _ _ _ _ _ _ _ _ _ _ rfl ?_
  refine ⟨rfl, rfl, by decide, by decide, by decide, ?_⟩
  repeat refine hX _ _ _ _ _ _ _ _ _ _ _ _ _ _ rfl ?_
  refine ⟨rfl, rfl, by decide, by decide, by decide, ?_⟩
  repeat refine hX _ _ _ _ _ _ _ _ _ _ _ _ _ _ rfl ?_
  refine ⟨rfl, rfl, by decide, by decide, by decide, ?_⟩
  repeat refine hX _ _ _ _ _ _ _ _ _ _ _ _ _ _ rfl ?_
  refine Or.inl ⟨_, _, i_empty1 S d, ?_⟩
  repeat refine hX _ _ _ _ _ _ _ _ _ _ _ _ _ _ rfl ?_
  exact ⟨rfl, rfl⟩
theorem i_reader (S : zS) (d : Nat) : Ex S (d + 3) 10 210 6 [.ref 1] ([.inr (.inr (4, [.null, .null, .null, .null, .null, .null, .null, .null, .int 0, .long 0])), .inr (.inr (1, [.int 0, .null, .null, .int 0, .int 0, .int 0, .int 0, .int 0, .int 0]))], []) none ([.inr (.inr (4, [.null, .null, .null, .null, .null, .null, .null, .null, .int 0, .long 0])), .inr (.inr (1, [.int 0, .ref 2, .ref 3, .int 0, .int 0, .int 0, .int 0, .int 0, .int 0])), .inl (0, 150, (fun _ => 0)), .inr (.inr (3, [.int 6, .int 1, .int 0, .int 0, .ref 4, .ref 5, .ref 6, .ref 7, .ref 8, .ref 9, .ref 10, .ref 11])), .inl (0, 6, (fun _ => 0)), .inl (0, 6, (fun _ => 0)), .inl (0, 6, (fun _ => 0)), .inl (0, 6, (fun _ => 0)), .inl (0, 6, (fun _ => 0)), .inl (0, 6, (fun _ => 0)), .inl (0, 6, (fun _ => 0)), .inl (0, 6, (fun _ => 0))], []) := by
  (refine exI rfl rfl ?_; intro X hX)
  repeat refine hX _ _ _ _ _ _ _ _ _ _ _ _ _ _ rfl ?_
  refine ⟨rfl, rfl, by decide, by decide, by decide, ?_⟩
  repeat refine hX _ _ _ _ _ _ _ _ _ _ _ _ _ _ rfl ?_
  refine ⟨rfl, by decide, by decide, by decide, ?_⟩
  repeat refine hX _ _ _ _ _ _ _ _ _ _ _ _ _ _ rfl ?_
  refine Or.inr ⟨_, _, 8, 48, i_town1 S d, rfl, by decide, by decide, ?_⟩
  repeat refine hX _ _ _ _ _ _ _ _ _ _ _ _ _ _ rfl ?_
  exact ⟨rfl, rfl⟩
theorem i_empty2 (S : zS) (d : Nat) : Ex S (d + 1) 0 0 27 [.ref 12] ([.inr (.inr (4, [.ref 1, .null, .null, .null, .null, .null, .null, .null, .int 0, .long 0])), .inr (.inr (1, [.int 0, .ref 2, .ref 3, .int 0, .int 0, .int 0, .int 0, .int 0, .int 0])), .inl (0, 150, (fun _ => 0)), .inr (.inr (3, [.int 6, .int 1, .int 0, .int 0, .ref 4, .ref 5, .ref 6, .ref 7, .ref 8, .ref 9, .ref 10, .ref 11])), .inl (0, 6, (fun _ => 0)), .inl (0, 6, (fun _ => 0)), .inl (0, 6, (fun _ => 0)), .inl (0, 6, (fun _ => 0)), .inl (0, 6, (fun _ => 0)), .inl (0, 6, (fun _ => 0)), .inl (0, 6, (fun _ => 0)), .inl (0, 6, (fun _ => 0)), .inr (.inr (3, [.int 0, .int 0, .int 0, .int 0, .ref 13, .ref 14, .ref 15, .ref 16, .ref 17, .ref 18, .ref 19, .ref 20])), .inl (0, 6, (fun _ => 0)), .inl (0, 6, (fun _ => 0)), .inl (0, 6, (fun _ => 0)), .inl (0, 6, (fun _ => 0)), .inl (0, 6, (fun _ => 0)), .inl (0, 6, (fun _ => 0)), .inl (0, 6, (fun _ => 0)), .inl (0, 6, (fun _ => 0))], []) none ([.inr (.inr (4, [.ref 1, .null, .null, .null, .null, .null, .null, .null, .int 0, .long 0])), .inr (.inr (1, [.int 0, .ref 2, .ref 3, .int 0, .int 0, .int 0, .int 0, .int 0, .int 0])), .inl (0, 150, (fun _ => 0)), .inr (.inr (3, [.int 6, .int 1, .int 0, .int 0, .ref 4, .ref 5, .ref 6, .ref 7, .ref 8, .ref 9, .ref 10, .ref 11])), .inl (0, 6, (fun _ => 0)), .inl (0, 6, (fun _ => 0)), .inl (0, 6, (fun _ => 0)), .inl (0, 6, (fun _ => 0)), .inl (0, 6, (fun _ => 0)), .inl (0, 6, (fun _ => 0)), .inl (0, 6, (fun _ => 0)), .inl (0, 6, (fun _ => 0)), .inr (.inr (3, [.int 6, .int 1, .int 0, .int 0, .ref 13, .ref 14, .ref 15, .ref 16, .ref 17, .ref 18, .ref 19, .ref 20])), .inl (0, 6, (fun _ => 0)), .inl (0, 6, (fun _ => 0)), .inl (0, 6, (fun _ => 0)), .inl (0, 6, (fun _ => 0)), .inl (0, 6, (fun _ => 0)), .inl (0, 6, (fun _ => 0)), .inl (0, 6, (fun _ => 0)), .inl (0, 6, (fun _ => 0))], []) := by
  (refine exI rfl rfl ?_; intro X hX)
  repeat refine hX _ _ _ _ _ _ _ _ _ _ _ _ _ _ rfl ?_
  exact ⟨rfl, rfl⟩
theorem i_town2 (S : zS) (d : Nat) : Ex S (d + 2) 8 48 26 [.ref 12] ([.inr (.inr (4, [.ref 1, .null, .null, .null, .null, .null, .null, .null, .int 0, .long 0])), .inr (.inr (1, [.int 0, .ref 2, .ref 3, .int 0, .int 0, .int 0, .int 0, .int 0, .int 0])), .inl (0, 150, (fun _ => 0)), .inr (.inr (3, [.int 6, .int 1, .int 0, .int 0, .ref 4, .ref 5, .ref 6, .ref 7, .ref 8, .ref 9, .ref 10, .ref 11])), .inl (0, 6, (fun _ => 0)), .inl (0, 6, (fun _ => 0)), .inl (0, 6, (fun _ => 0)), .inl (0, 6, (fun _ => 0)), .inl (0, 6, (fun _ => 0)), .inl (0, 6, (fun _ => 0)), .inl (0, 6, (fun _ => 0)), .inl (0, 6, (fun _ => 0)), .inr (.inr (3, [.int 0, .int 0, .int 0, .int 0, .null, .null, .null, .null, .null, .null, .null, .null]))], []) none ([.inr (.inr (4, [.ref 1, .null, .null, .null, .null, .null, .null, .null, .int 0, .long 0])), .inr (.inr (1, [.int 0, .ref 2, .ref 3, .int 0, .int 0, .int 0, .int 0, .int 0, .int 0])), .inl (0, 150, (fun _ => 0)), .inr (.inr (3, [.int 6, .int 1, .int 0, .int 0, .ref 4, .ref 5, .ref 6, .ref 7, .ref 8, .ref 9, .ref 10, .ref 11])), .inl (0, 6, (fun _ => 0)), .inl (0, 6, (fun _ => 0)), .inl (0, 6, (fun _ => 0)), .inl (0, 6, (fun _ => 0)), .inl (0, 6, (fun _ => 0)), .inl (0, 6, (fun _ => 0)), .inl (0, 6, (fun _ => 0)), .inl (0, 6, (fun _ => 0)), .inr (.inr (3, [.int 6, .int 1, .int 0, .int 0, .ref 13, .ref 14, .ref 15, .ref 16, .ref 17, .ref 18, .ref 19, .ref 20])), .inl (0, 6, (fun _ => 0)), .inl (0, 6, (fun _ => 0)), .inl (0, 6, (fun _ => 0)), .inl (0, 6, (fun _ => 0)), .inl (0, 6, (fun _ => 0)), .inl (0, 6, (fun _ => 0)), .inl (0, 6, (fun _ => 0)), .inl (0, 6, (fun _ => 0))], []) := by
  (refine exI rfl rfl ?_; intro X hX)
  repeat refine hX _ _ _ _ _ _ _ _ _ _ _ _ _ _ rfl ?_
  refine ⟨rfl, rfl, by decide, by decide, by decide, ?_⟩
  repeat refine hX _ _ _ _ _ _ _ _ _ _ _ _ _ _ rfl ?_
  refine ⟨rfl, rfl, by decide, by decide, by decide, ?_⟩
  repeat refine hX _ _ _ _ _ _ _ _ _ _ _ _ _ _ rfl ?_
  refine ⟨rfl, rfl, by decide, by decide, by decide, ?_⟩
  repeat refine hX _ _ _ _ _ _ _ _ _ _ _ _ _ _ rfl ?_
  refine ⟨rfl, rfl, by decide, by decide, by decide, ?_⟩
  repeat refine hX _ _ _ _ _ _ _ _ _ _ _ _ _ _ rfl ?_
  refine ⟨rfl, rfl, by decide, by decide, by decide, ?_⟩
  repeat refine hX _ _ _ _ _ _ _ _ _ _ _ _ _ _ rfl ?_
  refine ⟨rfl, rfl, by decide, by decide, by decide, ?_⟩
  repeat refine hX _ _ _ _ _ _ _ _ _ _ _ _ _ _ rfl ?_
  refine ⟨rfl, rfl, by decide, by decide, by decide, ?_⟩
  repeat refine hX _ _ _ _ _ _ _ _ _ _ _ _ _ _ rfl ?_
  refine ⟨rfl, rfl, by decide, by decide, by decide, ?_⟩
  repeat refine hX _ _ _ _ _ _ _ _ _ _ _ _ _ _ rfl ?_
  refine Or.inl ⟨_, _, i_empty2 S d, ?_⟩
  repeat refine hX _ _ _ _ _ _ _ _ _ _ _ _ _ _ rfl ?_
  exact ⟨rfl, rfl⟩
theorem i_scene1 (S : zS) (d : Nat) : Ex S (d + 1) 2 12 22 [.ref 21] ([.inr (.inr (4, [.ref 1, .ref 12, .null, .null, .null, .null, .null, .null, .int 0, .long 0])), .inr (.inr (1, [.int 0, .ref 2, .ref 3, .int 0, .int 0, .int 0, .int 0, .int 0, .int 0])), .inl (0, 150, (fun _ => 0)), .inr (.inr (3, [.int 6, .int 1, .int 0, .int 0, .ref 4, .ref 5, .ref 6, .ref 7, .ref 8, .ref 9, .ref 10, .ref 11])), .inl (0, 6, (fun _ => 0)), .inl (0, 6, (fun _ => 0)), .inl (0, 6, (fun _ => 0)), .inl (0, 6, (fun _ => 0)), .inl (0, 6, (fun _ => 0)), .inl (0, 6, (fun _ => 0)), .inl (0, 6, (fun _ => 0)), .inl (0, 6, (fun _ => 0)), .inr (.inr (3, [.int 6, .int 1, .int 0, .int 0, .ref 13, .ref 14, .ref 15, .ref 16, .ref 17, .ref 18, .ref 19, .ref 20])), .inl (0, 6, (fun _ => 0)), .inl (0, 6, (fun _ => 0)), .inl (0, 6, (fun _ => 0)), .inl (0, 6, (fun _ => 0)), .inl (0, 6, (fun _ => 0)), .inl (0, 6, (fun _ => 0)), .inl (0, 6, (fun _ => 0)), .inl (0, 6, (fun _ => 0)), .inr (.inr (2, [.int 0, .null, .null]))], []) none ([.inr (.inr (4, [.ref 1, .ref 12, .null, .null, .null, .null, .null, .null, .int 0, .long 0])), .inr (.inr (1, [.int 0, .ref 2, .ref 3, .int 0, .int 0, .int 0, .int 0, .int 0, .int 0])), .inl (0, 150, (fun _ => 0)), .inr (.inr (3, [.int 6, .int 1, .int 0, .int 0, .ref 4, .ref 5, .ref 6, .ref 7, .ref 8, .ref 9, .ref 10, .ref 11])), .inl (0, 6, (fun _ => 0)), .inl (0, 6, (fun _ => 0)), .inl (0, 6, (fun _ => 0)), .inl (0, 6, (fun _ => 0)), .inl (0, 6, (fun _ => 0)), .inl (0, 6, (fun _ => 0)), .inl (0, 6, (fun _ => 0)), .inl (0, 6, (fun _ => 0)), .inr (.inr (3, [.int 6, .int 1, .int 0, .int 0, .ref 13, .ref 14, .ref 15, .ref 16, .ref 17, .ref 18, .ref 19, .ref 20])), .inl (0, 6, (fun _ => 0)), .inl (0, 6, (fun _ => 0)), .inl (0, 6, (fun _ => 0)), .inl (0, 6, (fun _ => 0)), .inl (0, 6, (fun _ => 0)), .inl (0, 6, (fun _ => 0)), .inl (0, 6, (fun _ => 0)), .inl (0, 6, (fun _ => 0)), .inr (.inr (2, [.int 0, .ref 22, .ref 23])), .inl (0, 6, (fun _ => 0)), .inl (0, 6, (fun _ => 0))], []) := by
  (refine exI rfl rfl ?_; intro X hX)
  repeat refine hX _ _ _ _ _ _ _ _ _ _ _ _ _ _ rfl ?_
  refine ⟨rfl, rfl, by decide, by decide, by decide, ?_⟩
  repeat refine hX _ _ _ _ _ _ _ _ _ _ _ _ _ _ rfl ?_
  refine ⟨rfl, rfl, by decide, by decide, by decide, ?_⟩
  repeat refine hX _ _ _ _ _ _ _ _ _ _ _ _ _ _ rfl ?_
  exact ⟨rfl, rfl⟩
theorem i_past (S : zS) (d : Nat) : Ex S (d + 1) 3 30 1 [.ref 24] ([.inr (.inr (4, [.ref 1, .ref 12, .ref 21, .null, .null, .null, .null, .null, .int 0, .long 0])), .inr (.inr (1, [.int 0, .ref 2, .ref 3, .int 0, .int 0, .int 0, .int 0, .int 0, .int 0])), .inl (0, 150, (fun _ => 0)), .inr (.inr (3, [.int 6, .int 1, .int 0, .int 0, .ref 4, .ref 5, .ref 6, .ref 7, .ref 8, .ref 9, .ref 10, .ref 11])), .inl (0, 6, (fun _ => 0)), .inl (0, 6, (fun _ => 0)), .inl (0, 6, (fun _ => 0)), .inl (0, 6, (fun _ => 0)), .inl (0, 6, (fun _ => 0)), .inl (0, 6, (fun _ => 0)), .inl (0, 6, (fun _ => 0)), .inl (0, 6, (fun _ => 0)), .inr (.inr (3, [.int 6, .int 1, .int 0, .int 0, .ref 13, .ref 14, .ref 15, .ref 16, .ref 17, .ref 18, .ref 19, .ref 20])), .inl (0, 6, (fun _ => 0)), .inl (0, 6, (fun _ => 0)), .inl (0, 6, (fun _ => 0)), .inl (0, 6, (fun _ => 0)), .inl (0, 6, (fun _ => 0)), .inl (0, 6, (fun _ => 0)), .inl (0, 6, (fun _ => 0)), .inl (0, 6, (fun _ => 0)), .inr (.inr (2, [.int 0, .ref 22, .ref 23])), .inl (0, 6, (fun _ => 0)), .inl (0, 6, (fun _ => 0)), .inr (.inr (0, [.int 0, .null, .null, .null]))], []) none ([.inr (.inr (4, [.ref 1, .ref 12, .ref 21, .null, .null, .null, .null, .null, .int 0, .long 0])), .inr (.inr (1, [.int 0, .ref 2, .ref 3, .int 0, .int 0, .int 0, .int 0, .int 0, .int 0])), .inl (0, 150, (fun _ => 0)), .inr (.inr (3, [.int 6, .int 1, .int 0, .int 0, .ref 4, .ref 5, .ref 6, .ref 7, .ref 8, .ref 9, .ref 10, .ref 11])), .inl (0, 6, (fun _ => 0)), .inl (0, 6, (fun _ => 0)), .inl (0, 6, (fun _ => 0)), .inl (0, 6, (fun _ => 0)), .inl (0, 6, (fun _ => 0)), .inl (0, 6, (fun _ => 0)), .inl (0, 6, (fun _ => 0)), .inl (0, 6, (fun _ => 0)), .inr (.inr (3, [.int 6, .int 1, .int 0, .int 0, .ref 13, .ref 14, .ref 15, .ref 16, .ref 17, .ref 18, .ref 19, .ref 20])), .inl (0, 6, (fun _ => 0)), .inl (0, 6, (fun _ => 0)), .inl (0, 6, (fun _ => 0)), .inl (0, 6, (fun _ => 0)), .inl (0, 6, (fun _ => 0)), .inl (0, 6, (fun _ => 0)), .inl (0, 6, (fun _ => 0)), .inl (0, 6, (fun _ => 0)), .inr (.inr (2, [.int 0, .ref 22, .ref 23])), .inl (0, 6, (fun _ => 0)), .inl (0, 6, (fun _ => 0)), .inr (.inr (0, [.int 0, .ref 25, .ref 26, .ref 27])), .inl (0, 10, (fun _ => 0)), .inl (0, 10, (fun _ => 0)), .inl (0, 10, (fun _ => 0))], []) := by
  (refine exI rfl rfl ?_; intro X hX)
  repeat refine hX _ _ _ _ _ _ _ _ _ _ _ _ _ _ rfl ?_
  refine ⟨rfl, rfl, by decide, by decide, by decide, ?_⟩
  repeat refine hX _ _ _ _ _ _ _ _ _ _ _ _ _ _ rfl ?_
  refine ⟨rfl, rfl, by decide, by decide, by decide, ?_⟩
  repeat refine hX _ _ _ _ _ _ _ _ _ _ _ _ _ _ rfl ?_
  refine ⟨rfl, rfl, by decide, by decide, by decide, ?_⟩
  repeat refine hX _ _ _ _ _ _ _ _ _ _ _ _ _ _ rfl ?_
  exact ⟨rfl, rfl⟩
theorem i_scene2 (S : zS) (d : Nat) : Ex S (d + 1) 2 12 22 [.ref 29] ([.inr (.inr (4, [.ref 1, .ref 12, .ref 21, .ref 24, .ref 28, .null, .null, .null, .int 0, .long 0])), .inr (.inr (1, [.int 0, .ref 2, .ref 3, .int 0, .int 0, .int 0, .int 0, .int 0, .int 0])), .inl (0, 150, (fun _ => 0)), .inr (.inr (3, [.int 6, .int 1, .int 0, .int 0, .ref 4, .ref 5, .ref 6, .ref 7, .ref 8, .ref 9, .ref 10, .ref 11])), .inl (0, 6, (fun _ => 0)), .inl (0, 6, (fun _ => 0)), .inl (0, 6, (fun _ => 0)), .inl (0, 6, (fun _ => 0)), .inl (0, 6, (fun _ => 0)), .inl (0, 6, (fun _ => 0)), .inl (0, 6, (fun _ => 0)), .inl (0, 6, (fun _ => 0)), .inr (.inr (3, [.int 6, .int 1, .int 0, .int 0, .ref 13, .ref 14, .ref 15, .ref 16, .ref 17, .ref 18, .ref 19, .ref 20])), .inl (0, 6, (fun _ => 0)), .inl (0, 6, (fun _ => 0)), .inl (0, 6, (fun _ => 0)), .inl (0, 6, (fun _ => 0)), .inl (0, 6, (fun _ => 0)), .inl (0, 6, (fun _ => 0)), .inl (0, 6, (fun _ => 0)), .inl (0, 6, (fun _ => 0)), .inr (.inr (2, [.int 0, .ref 22, .ref 23])), .inl (0, 6, (fun _ => 0)), .inl (0, 6, (fun _ => 0)), .inr (.inr (0, [.int 0, .ref 25, .ref 26, .ref 27])), .inl (0, 10, (fun _ => 0)), .inl (0, 10, (fun _ => 0)), .inl (0, 10, (fun _ => 0)), .inr (.inl [none, none]), .inr (.inr (2, [.int 0, .null, .null]))], []) none ([.inr (.inr (4, [.ref 1, .ref 12, .ref 21, .ref 24, .ref 28, .null, .null, .null, .int 0, .long 0])), .inr (.inr (1, [.int 0, .ref 2, .ref 3, .int 0, .int 0, .int 0, .int 0, .int 0, .int 0])), .inl (0, 150, (fun _ => 0)), .inr (.inr (3, [.int 6, .int 1, .int 0, .int 0, .ref 4, .ref 5, .ref 6, .ref 7, .ref 8, .ref 9, .ref 10, .ref 11])), .inl (0, 6, (fun _ => 0)), .inl (0, 6, (fun _ => 0)), .inl (0, 6, (fun _ => 0)), .inl (0, 6, (fun _ => 0)), .inl (0, 6, (fun _ => 0)), .inl (0, 6, (fun _ => 0)), .inl (0, 6, (fun _ => 0)), .inl (0, 6, (fun _ => 0)), .inr (.inr (3, [.int 6, .int 1, .int 0, .int 0, .ref 13, .ref 14, .ref 15, .ref 16, .ref 17, .ref 18, .ref 19, .ref 20])), .inl (0, 6, (fun _ => 0)), .inl (0, 6, (fun _ => 0)), .inl (0, 6, (fun _ => 0)), .inl (0, 6, (fun _ => 0)), .inl (0, 6, (fun _ => 0)), .inl (0, 6, (fun _ => 0)), .inl (0, 6, (fun _ => 0)), .inl (0, 6, (fun _ => 0)), .inr (.inr (2, [.int 0, .ref 22, .ref 23])), .inl (0, 6, (fun _ => 0)), .inl (0, 6, (fun _ => 0)), .inr (.inr (0, [.int 0, .ref 25, .ref 26, .ref 27])), .inl (0, 10, (fun _ => 0)), .inl (0, 10, (fun _ => 0)), .inl (0, 10, (fun _ => 0)), .inr (.inl [none, none]), .inr (.inr (2, [.int 0, .ref 30, .ref 31])), .inl (0, 6, (fun _ => 0)), .inl (0, 6, (fun _ => 0))], []) := by
  (refine exI rfl rfl ?_; intro X hX)
  repeat refine hX _ _ _ _ _ _ _ _ _ _ _ _ _ _ rfl ?_
  refine ⟨rfl, rfl, by decide, by decide, by decide, ?_⟩
  repeat refine hX _ _ _ _ _ _ _ _ _ _ _ _ _ _ rfl ?_
  refine ⟨rfl, rfl, by decide, by decide, by decide, ?_⟩
  repeat refine hX _ _ _ _ _ _ _ _ _ _ _ _ _ _ rfl ?_
  exact ⟨rfl, rfl⟩
theorem i_scene3 (S : zS) (d : Nat) : Ex S (d + 1) 2 12 22 [.ref 32] ([.inr (.inr (4, [.ref 1, .ref 12, .ref 21, .ref 24, .ref 28, .null, .null, .null, .int 0, .long 0])), .inr (.inr (1, [.int 0, .ref 2, .ref 3, .int 0, .int 0, .int 0, .int 0, .int 0, .int 0])), .inl (0, 150, (fun _ => 0)), .inr (.inr (3, [.int 6, .int 1, .int 0, .int 0, .ref 4, .ref 5, .ref 6, .ref 7, .ref 8, .ref 9, .ref 10, .ref 11])), .inl (0, 6, (fun _ => 0)), .inl (0, 6, (fun _ => 0)), .inl (0, 6, (fun _ => 0)), .inl (0, 6, (fun _ => 0)), .inl (0, 6, (fun _ => 0)), .inl (0, 6, (fun _ => 0)), .inl (0, 6, (fun _ => 0)), .inl (0, 6, (fun _ => 0)), .inr (.inr (3, [.int 6, .int 1, .int 0, .int 0, .ref 13, .ref 14, .ref 15, .ref 16, .ref 17, .ref 18, .ref 19, .ref 20])), .inl (0, 6, (fun _ => 0)), .inl (0, 6, (fun _ => 0)), .inl (0, 6, (fun _ => 0)), .inl (0, 6, (fun _ => 0)), .inl (0, 6, (fun _ => 0)), .inl (0, 6, (fun _ => 0)), .inl (0, 6, (fun _ => 0)), .inl (0, 6, (fun _ => 0)), .inr (.inr (2, [.int 0, .ref 22, .ref 23])), .inl (0, 6, (fun _ => 0)), .inl (0, 6, (fun _ => 0)), .inr (.inr (0, [.int 0, .ref 25, .ref 26, .ref 27])), .inl (0, 10, (fun _ => 0)), .inl (0, 10, (fun _ => 0)), .inl (0, 10, (fun _ => 0)), .inr (.inl [some 29, none]), .inr (.inr (2, [.int 0, .ref 30, .ref 31])), .inl (0, 6, (fun _ => 0)), .inl (0, 6, (fun _ => 0)), .inr (.inr (2, [.int 0, .null, .null]))], []) none ([.inr (.inr (4, [.ref 1, .ref 12, .ref 21, .ref 24, .ref 28, .null, .null, .null, .int 0, .long 0])), .inr (.inr (1, [.int 0, .ref 2, .ref 3, .int 0, .int 0, .int 0, .int 0, .int 0, .int 0])), .inl (0, 150, (fun _ => 0)), .inr (.inr (3, [.int 6, .int 1, .int 0, .int 0, .ref 4, .ref 5, .ref 6, .ref 7, .ref 8, .ref 9, .ref 10, .ref 11])), .inl (0, 6, (fun _ => 0)), .inl (0, 6, (fun _ => 0)), .inl (0, 6, (fun _ => 0)), .inl (0, 6, (fun _ => 0)), .inl (0, 6, (fun _ => 0)), .inl (0, 6, (fun _ => 0)), .inl (0, 6, (fun _ => 0)), .inl (0, 6, (fun _ => 0)), .inr (.inr (3, [.int 6, .int 1, .int 0, .int 0, .ref 13, .ref 14, .ref 15, .ref 16, .ref 17, .ref 18, .ref 19, .ref 20])), .inl (0, 6, (fun _ => 0)), .inl (0, 6, (fun _ => 0)), .inl (0, 6, (fun _ => 0)), .inl (0, 6, (fun _ => 0)), .inl (0, 6, (fun _ => 0)), .inl (0, 6, (fun _ => 0)), .inl (0, 6, (fun _ => 0)), .inl (0, 6, (fun _ => 0)), .inr (.inr (2, [.int 0, .ref 22, .ref 23])), .inl (0, 6, (fun _ => 0)), .inl (0, 6, (fun _ => 0)), .inr (.inr (0, [.int 0, .ref 25, .ref 26, .ref 27])), .inl (0, 10, (fun _ => 0)), .inl (0, 10, (fun _ => 0)), .inl (0, 10, (fun _ => 0)), .inr (.inl [some 29, none]), .inr (.inr (2, [.int 0, .ref 30, .ref 31])), .inl (0, 6, (fun _ => 0)), .inl (0, 6, (fun _ => 0)), .inr (.inr (2, [.int 0, .ref 33, .ref 34])), .inl (0, 6, (fun _ => 0)), .inl (0, 6, (fun _ => 0))], []) := by
  (refine exI rfl rfl ?_; intro X hX)
  repeat refine hX _ _ _ _ _ _ _ _ _ _ _ _ _ _ rfl ?_
  refine ⟨rfl, rfl, by decide, by decide, by decide, ?_⟩
  repeat refine hX _ _ _ _ _ _ _ _ _ _ _ _ _ _ rfl ?_
  refine ⟨rfl, rfl, by decide, by decide, by decide, ?_⟩
  repeat refine hX _ _ _ _ _ _ _ _ _ _ _ _ _ _ rfl ?_
  exact ⟨rfl, rfl⟩
def cS0 : cS := ((0, (fun _ => 0), 0, 0, 0, 0, 0, 0), (6, 1, 0, 0, (fun _ => 0), (fun _ => 0), (fun _ => 0), (fun _ => 0), (fun _ => 0), (fun _ => 0), (fun _ => 0), (fun _ => 0)), (6, 1, 0, 0, (fun _ => 0), (fun _ => 0), (fun _ => 0), (fun _ => 0), (fun _ => 0), (fun _ => 0), (fun _ => 0), (fun _ => 0)), (0, (fun _ => 0), (fun _ => 0)), (0, (fun _ => 0), (fun _ => 0), (fun _ => 0)), (0, (fun _ => 0), (fun _ => 0)), (0, (fun _ => 0), (fun _ => 0)), (fun _ => 0), (fun _ => 0), (fun _ => 0), 0, 0)
set_option maxRecDepth 20000 in
theorem i_class (S : zS) (d : Nat) : Ex S (d + 4) 100 1000 36 [.ref 0] ([.inr (.inr (4, [.null, .null, .null, .null, .null, .null, .null, .null, .int 0, .long 0]))], []) none (hC false cS0, []) := by
  (refine exI rfl rfl ?_; intro X hX)
  repeat refine hX _ _ _ _ _ _ _ _ _ _ _ _ _ _ rfl ?_
  refine ⟨rfl, by decide, by decide, by decide, ?_⟩
  repeat refine hX _ _ _ _ _ _ _ _ _ _ _ _ _ _ rfl ?_
  refine Or.inr ⟨_, _, 10, 210, i_reader S d, rfl, by decide, by decide, ?_⟩
  repeat refine hX _ _ _ _ _ _ _ _ _ _ _ _ _ _ rfl ?_
  refine ⟨rfl, by decide, by decide, by decide, ?_⟩
  repeat refine hX _ _ _ _ _ _ _ _ _ _ _ _ _ _ rfl ?_
  refine Or.inr ⟨_, _, 8, 48, i_town2 S (d + 1), rfl, by decide, by decide, ?_⟩
  repeat refine hX _ _ _ _ _ _ _ _ _ _ _ _ _ _ rfl ?_
  refine ⟨rfl, by decide, by decide, by decide, ?_⟩
  repeat refine hX _ _ _ _ _ _ _ _ _ _ _ _ _ _ rfl ?_
  refine Or.inr ⟨_, _, 2, 12, i_scene1 S (d + 2), rfl, by decide, by decide, ?_⟩
  repeat refine hX _ _ _ _ _ _ _ _ _ _ _ _ _ _ rfl ?_
  refine ⟨rfl, by decide, by decide, by decide, ?_⟩
  repeat refine hX _ _ _ _ _ _ _ _ _ _ _ _ _ _ rfl ?_
  refine Or.inr ⟨_, _, 3, 30, i_past S (d + 2), rfl, by decide, by decide, ?_⟩
  repeat refine hX _ _ _ _ _ _ _ _ _ _ _ _ _ _ rfl ?_
  refine ⟨rfl, rfl, by decide, by decide, by decide, ?_⟩
  repeat refine hX _ _ _ _ _ _ _ _ _ _ _ _ _ _ rfl ?_
  refine br_f (by unfold z_c2; decide) ?_
  repeat refine hX _ _ _ _ _ _ _ _ _ _ _ _ _ _ rfl ?_
  refine ⟨rfl, by decide, by decide, by decide, ?_⟩
  repeat refine hX _ _ _ _ _ _ _ _ _ _ _ _ _ _ rfl ?_
  refine Or.inr ⟨_, _, 2, 12, i_scene2 S (d + 2), rfl, by decide, by decide, ?_⟩
  repeat refine hX _ _ _ _ _ _ _ _ _ _ _ _ _ _ rfl ?_
  refine ⟨by unfold vp_in; decide, ?_⟩
  repeat refine hX _ _ _ _ _ _ _ _ _ _ _ _ _ _ rfl ?_
  refine br_f (by unfold z_c2; decide) ?_
  repeat refine hX _ _ _ _ _ _ _ _ _ _ _ _ _ _ rfl ?_
  refine ⟨rfl, by decide, by decide, by decide, ?_⟩
  repeat refine hX _ _ _ _ _ _ _ _ _ _ _ _ _ _ rfl ?_
  refine Or.inr ⟨_, _, 2, 12, i_scene3 S (d + 2), rfl, by decide, by decide, ?_⟩
  repeat refine hX _ _ _ _ _ _ _ _ _ _ _ _ _ _ rfl ?_
  refine ⟨by unfold vp_in; decide, ?_⟩
  repeat refine hX _ _ _ _ _ _ _ _ _ _ _ _ _ _ rfl ?_
  refine br_t (by unfold z_c2; decide) ?_
  repeat refine hX _ _ _ _ _ _ _ _ _ _ _ _ _ _ rfl ?_
  refine ⟨rfl, rfl, by decide, by decide, by decide, ?_⟩
  repeat refine hX _ _ _ _ _ _ _ _ _ _ _ _ _ _ rfl ?_
  refine ⟨rfl, rfl, by decide, by decide, by decide, ?_⟩
  repeat refine hX _ _ _ _ _ _ _ _ _ _ _ _ _ _ rfl ?_
  refine ⟨rfl, rfl, by decide, by decide, by decide, ?_⟩
  repeat refine hX _ _ _ _ _ _ _ _ _ _ _ _ _ _ rfl ?_
  exact ⟨rfl, rfl⟩
def mS0 : mS := (upd (upd (fun _ => 0) 0 6) 3 1, (fun _ => 0), (fun _ => 0), (fun _ => 0), (fun _ => 0), 0, (fun _ => 0), 0, 0, (fun _ => 0), 0, (fun _ => 0), (fun _ => 0), 0, 0, 0, 0, 0)
theorem i_model (S : zS) (d : Nat) : Ex S (d + 1) 100 1000 90 [.ref 1000] (hC false cS0, [.inr (.inr (5, [.null, .null, .null, .null, .null, .int 0, .null, .int 0, .int 0, .null, .int 0, .null, .null, .long 0, .int 0, .int 0, .int 0, .int 0]))]) none (hC false cS0, hM mS0) := by
  (refine exI rfl rfl ?_; intro X hX)
  repeat refine hX _ _ _ _ _ _ _ _ _ _ _ _ _ _ rfl ?_
  refine ⟨rfl, rfl, by decide, by decide, by decide, ?_⟩
  repeat refine hX _ _ _ _ _ _ _ _ _ _ _ _ _ _ rfl ?_
  refine ⟨rfl, rfl, by decide, by decide, by decide, ?_⟩
  repeat refine hX _ _ _ _ _ _ _ _ _ _ _ _ _ _ rfl ?_
  refine ⟨rfl, rfl, by decide, by decide, by decide, ?_⟩
  repeat refine hX _ _ _ _ _ _ _ _ _ _ _ _ _ _ rfl ?_
  refine ⟨rfl, rfl, by decide, by decide, by decide, ?_⟩
  repeat refine hX _ _ _ _ _ _ _ _ _ _ _ _ _ _ rfl ?_
  refine ⟨rfl, rfl, by decide, by decide, by decide, ?_⟩
  repeat refine hX _ _ _ _ _ _ _ _ _ _ _ _ _ _ rfl ?_
  refine ⟨rfl, rfl, by decide, by decide, by decide, ?_⟩
  repeat refine hX _ _ _ _ _ _ _ _ _ _ _ _ _ _ rfl ?_
  refine ⟨rfl, rfl, by decide, by decide, by decide, ?_⟩
  repeat refine hX _ _ _ _ _ _ _ _ _ _ _ _ _ _ rfl ?_
  refine ⟨rfl, rfl, by decide, by decide, by decide, ?_⟩
  repeat refine hX _ _ _ _ _ _ _ _ _ _ _ _ _ _ rfl ?_
  refine ⟨rfl, rfl, by decide, by decide, by decide, ?_⟩
  repeat refine hX _ _ _ _ _ _ _ _ _ _ _ _ _ _ rfl ?_
  refine ⟨by unfold vp_in; decide, ?_⟩
  repeat refine hX _ _ _ _ _ _ _ _ _ _ _ _ _ _ rfl ?_
  refine ⟨by unfold vp_in; decide, ?_⟩
  repeat refine hX _ _ _ _ _ _ _ _ _ _ _ _ _ _ rfl ?_
  exact ⟨rfl, rfl⟩
