/-! ===== from the small machine's cells to the kit's worlds ===== -/
abbrev z_cls : List vw_C := [(RX0, TX0, 4), (RX1, TX1, 9), (RX2, TX2, 3), (RX3, TX3, 12), (RX4, TX4, 10), (RX5, TX5, 18)]
def z_tv (ad : Nat → Nat) (v : Value) : Value := match v with
  | .ref k => .ref (ad k)
  | v => v
def z_te (dA : Nat → ClassId) (ad : Nat → Nat) (c : zC) : va_E := match c with
  | .inl (t, n, f) => .inl (dA t, n, .inl f)
  | .inr (.inl l) => .inl (dA 2, l.length, .inr (.inr (.inr (.inr fun j => ((l[j]?).getD none).map ad))))
  | .inr (.inr (ci, fs)) => .inr (ci, fs.map (z_tv ad))
def z_tl (dA : Nat → ClassId) (ad : Nat → Nat) : Nat → List zC → va_W
  | _, [] => []
  | o, c :: r => (ad o, z_te dA ad c) :: z_tl dA ad (o + 1) r
def z_tw (dA : Nat → ClassId) (ad : Nat → Nat) (h : zH) : va_W := z_tl dA ad 0 h.1 ++ z_tl dA ad 1000 h.2
theorem z_tl_len (dA : Nat → ClassId) (ad : Nat → Nat) : ∀ (l : List zC) (o : Nat), (z_tl dA ad o l).length = l.length
  | [], _ => rfl
  | _ :: r, o => congrArg (· + 1) (z_tl_len dA ad r (o + 1))
theorem z_tl_get (dA : Nat → ClassId) (ad : Nat → Nat) : ∀ (l : List zC) (o k : Nat), (z_tl dA ad o l)[k]? = (l[k]?).map fun c => (ad (o + k), z_te dA ad c)
  | [], _, _ => by simp [z_tl]
  | c :: r, o, 0 => by simp [z_tl]
  | c :: r, o, k + 1 => by
    have := z_tl_get dA ad r (o + 1) k
    simp only [z_tl, List.getElem?_cons_succ]
    rw [this, show o + 1 + k = o + (k + 1) by omega]
theorem z_tl_set (dA : Nat → ClassId) (ad : Nat → Nat) : ∀ (l : List zC) (o k : Nat) (c : zC), (z_tl dA ad o l).set k (ad (o + k), z_te dA ad c) = z_tl dA ad o (l.set k c)
  | [], _, _, _ => by simp [z_tl]
  | c0 :: r, o, 0, c => by simp [z_tl]
  | c0 :: r, o, k + 1, c => by
    have := z_tl_set dA ad r (o + 1) k c
    simp only [z_tl, List.set_cons_succ]
    rw [← this, show o + 1 + k = o + (k + 1) by omega]
theorem z_tl_app (dA : Nat → ClassId) (ad : Nat → Nat) : ∀ (l : List zC) (o : Nat) (c : zC), z_tl dA ad o (l ++ [c]) = z_tl dA ad o l ++ [(ad (o + l.length), z_te dA ad c)]
  | [], o, c => by simp [z_tl]
  | c0 :: r, o, c => by
    have := z_tl_app dA ad r (o + 1) c
    simp only [z_tl, List.cons_append, List.length_cons]
    rw [this, show o + 1 + r.length = o + (r.length + 1) by omega]
theorem z_tl_congr (dA : Nat → ClassId) {ad ad' : Nat → Nat} : ∀ (l : List zC) (o : Nat), (∀ c ∈ l, z_te dA ad c = z_te dA ad' c) → (∀ k, k < l.length → ad (o + k) = ad' (o + k)) → z_tl dA ad o l = z_tl dA ad' o l
  | [], _, _, _ => rfl
  | c :: r, o, h1, h2 => by
    have := z_tl_congr dA r (o + 1) (fun x hx => h1 x (List.mem_cons_of_mem _ hx)) (fun k hk => by
      have := h2 (k + 1) (by simpa using hk)
      rwa [show o + (k + 1) = o + 1 + k by omega] at this)
    have h0 := h2 0 (by simp)
    simp only [z_tl]
    rw [this, h1 c List.mem_cons_self, show ad o = ad' o from h0]
def z_pos (h : zH) (k : Nat) : Nat := if Nat.ble 1000 k = true then h.1.length + (k - 1000) else k
theorem z_get_tw (dA : Nat → ClassId) (ad : Nat → Nat) {h : zH} {k : Nat} {c : zC} (hg : z_get h k = some c) : (z_tw dA ad h)[z_pos h k]? = some (ad k, z_te dA ad c) := by
  unfold z_get at hg
  unfold z_tw z_pos
  cases hb : Nat.ble 1000 k with
  | true =>
    rw [hb] at hg
    have hk : 1000 ≤ k := Nat.le_of_ble_eq_true hb
    simp only [if_true]
    rw [List.getElem?_append_right (by rw [z_tl_len]; omega), z_tl_len, z_tl_get, show h.1.length + (k - 1000) - h.1.length = k - 1000 by omega, show h.2[k - 1000]? = some c from hg, show 1000 + (k - 1000) = k by omega]
    rfl
  | false =>
    rw [hb] at hg
    have hl : k < h.1.length := (List.getElem?_eq_some_iff.mp hg).1
    simp only [Bool.false_eq_true, if_false]
    rw [List.getElem?_append_left (by rw [z_tl_len]; exact hl), z_tl_get, show h.1[k]? = some c from hg, Nat.zero_add]
    rfl
theorem z_set_tw (dA : Nat → ClassId) (ad : Nat → Nat) {h : zH} {k : Nat} {c0 : zC} (c : zC) (hg : z_get h k = some c0) : (z_tw dA ad h).set (z_pos h k) (ad k, z_te dA ad c) = z_tw dA ad (z_set h k c) := by
  unfold z_get at hg
  unfold z_tw z_pos z_set
  cases hb : Nat.ble 1000 k with
  | true =>
    rw [hb] at hg
    have hk : 1000 ≤ k := Nat.le_of_ble_eq_true hb
    simp only [if_true]
    rw [List.set_append_right _ _ (by rw [z_tl_len]; omega), z_tl_len, show h.1.length + (k - 1000) - h.1.length = k - 1000 by omega]
    have := z_tl_set dA ad h.2 1000 (k - 1000) c
    rw [show 1000 + (k - 1000) = k by omega] at this
    rw [this]
  | false =>
    rw [hb] at hg
    have hl : k < h.1.length := (List.getElem?_eq_some_iff.mp hg).1
    simp only [Bool.false_eq_true, if_false]
    rw [List.set_append_left _ _ (by rw [z_tl_len]; exact hl)]
    have := z_tl_set dA ad h.1 0 k c
    rw [Nat.zero_add] at this
    rw [this]
theorem z_set_len1 (h : zH) (k : Nat) (c : zC) : (z_set h k c).1.length = h.1.length := by
  unfold z_set; cases Nat.ble 1000 k <;> simp
theorem z_set_len2 (h : zH) (k : Nat) (c : zC) : (z_set h k c).2.length = h.2.length := by
  unfold z_set; cases Nat.ble 1000 k <;> simp
/-- the address of one new cell -/
def z_ad (ad : Nat → Nat) (r q : Nat) : Nat → Nat := fun k => if k = r then q else ad k
theorem z_tv_congr {h : zH} {ad ad' : Nat → Nat} (ha : ∀ r, z_okr h r = true → ad' r = ad r) {v : Value} (hv : z_okv h v = true) : z_tv ad' v = z_tv ad v := by
  cases v with
  | ref k => exact congrArg Value.ref (ha k hv)
  | _ => rfl
theorem z_tvs_congr {h : zH} {ad ad' : Nat → Nat} (ha : ∀ r, z_okr h r = true → ad' r = ad r) {st : List Value} (hv : st.all (z_okv h) = true) : st.map (z_tv ad') = st.map (z_tv ad) :=
  List.map_congr_left fun v hm => z_tv_congr ha (List.all_eq_true.mp hv v hm)
theorem z_te_congr (dA : Nat → ClassId) {h : zH} {ad ad' : Nat → Nat} (ha : ∀ r, z_okr h r = true → ad' r = ad r) {c : zC} (hv : z_okc h c = true) : z_te dA ad' c = z_te dA ad c := by
  match c with
  | .inl _ => rfl
  | .inr (.inl l) =>
    have : (fun j : Nat => ((l[j]?).getD none).map ad') = fun j : Nat => ((l[j]?).getD none).map ad := by
      funext j
      cases hl : l[j]? with
      | none => rfl
      | some o =>
        have := List.all_eq_true.mp hv o (List.mem_of_getElem? hl)
        cases o with
        | none => rfl
        | some k => simp [ha k this]
    show Sum.inl (dA 2, l.length, Sum.inr (Sum.inr (Sum.inr (Sum.inr fun j : Nat => ((l[j]?).getD none).map ad')))) = Sum.inl (dA 2, l.length, Sum.inr (Sum.inr (Sum.inr (Sum.inr fun j : Nat => ((l[j]?).getD none).map ad))))
    rw [this]
  | .inr (.inr (ci, fs)) =>
    show Sum.inr (ci, fs.map (z_tv ad')) = Sum.inr (ci, fs.map (z_tv ad))
    rw [z_tvs_congr ha hv]
theorem z_tw_congr (dA : Nat → ClassId) {h : zH} {ad ad' : Nat → Nat} (ha : ∀ r, z_okr h r = true → ad' r = ad r) (hv : z_wfh h = true) : z_tw dA ad' h = z_tw dA ad h := by
  unfold z_wfh at hv
  rw [Bool.and_eq_true] at hv
  unfold z_tw
  rw [z_tl_congr dA h.1 0 (fun c hc => z_te_congr dA ha (List.all_eq_true.mp hv.1 c hc)) (fun k hk => ha _ (by simp [z_okr, Nat.blt, hk]; omega)),
    z_tl_congr dA h.2 1000 (fun c hc => z_te_congr dA ha (List.all_eq_true.mp hv.2 c hc)) (fun k hk => ha _ (by simp [z_okr, Nat.blt]; omega))]
/-- the locals -/
def z_lr (ad : Nat → Nat) (ml : Nat) (ls : zL) (lsC : Array Slot) : Prop := ls.length = ml ∧ lv_has lsC ml [] ∧ ∀ (i : Nat) (v : Value), ls[i]? = some (some v) → lsC[i]? = some (.val (z_tv ad v))
theorem z_lr_congr {h : zH} {ad ad' : Nat → Nat} (ha : ∀ r, z_okr h r = true → ad' r = ad r) {ml : Nat} {ls : zL} {lsC : Array Slot} (hv : ls.all (z_oko h) = true) (hl : z_lr ad ml ls lsC) : z_lr ad' ml ls lsC := by
  refine ⟨hl.1, hl.2.1, fun i v hi => ?_⟩
  rw [z_tv_congr ha (show z_okv h v = true from List.all_eq_true.mp hv (some v) (List.mem_of_getElem? hi))]
  exact hl.2.2 i v hi
/-- the pairs that hold, as the kit lists them -/
def z_prs (ad : Nat → Nat) : Nat → zL → List (Nat × Value)
  | _, [] => []
  | o, some v :: r => (o, z_tv ad v) :: z_prs ad (o + 1) r
  | o, none :: r => z_prs ad (o + 1) r
theorem z_prs_mem (ad : Nat → Nat) : ∀ (ls : zL) (o i : Nat) (v : Value), ls[i]? = some (some v) → (o + i, z_tv ad v) ∈ z_prs ad o ls
  | [], _, _, _, h => by simp at h
  | some w :: r, o, 0, v, h => by
    simp at h; subst h; simp [z_prs]
  | none :: r, o, 0, v, h => by simp at h
  | some w :: r, o, i + 1, v, h => by
    have := z_prs_mem ad r (o + 1) i v (by simpa using h)
    rw [show o + (i + 1) = o + 1 + i by omega]
    exact List.mem_cons_of_mem _ this
  | none :: r, o, i + 1, v, h => by
    have := z_prs_mem ad r (o + 1) i v (by simpa using h)
    rw [show o + (i + 1) = o + 1 + i by omega]
    exact this
theorem z_prs_of (ad : Nat → Nat) : ∀ (ls : zL) (o : Nat) (q : Nat × Value), q ∈ z_prs ad o ls → ∃ (i : Nat) (v : Value), ls[i]? = some (some v) ∧ q = (o + i, z_tv ad v)
  | [], _, _, h => by simp [z_prs] at h
  | some w :: r, o, q, h => by
    rcases List.mem_cons.mp h with h | h
    · exact ⟨0, w, rfl, h⟩
    · obtain ⟨i, v, h1, h2⟩ := z_prs_of ad r (o + 1) q h
      exact ⟨i + 1, v, by simpa using h1, by rw [h2, show o + 1 + i = o + (i + 1) by omega]⟩
  | none :: r, o, q, h => by
    obtain ⟨i, v, h1, h2⟩ := z_prs_of ad r (o + 1) q h
    exact ⟨i + 1, v, by simpa using h1, by rw [h2, show o + 1 + i = o + (i + 1) by omega]⟩
theorem z_lr_has {ad : Nat → Nat} {ml : Nat} {ls : zL} {lsC : Array Slot} (h : z_lr ad ml ls lsC) : lv_has lsC ml (z_prs ad 0 ls) := by
  refine ⟨h.2.1.1, h.2.1.2.1, fun q hq => ?_⟩
  obtain ⟨i, v, h1, h2⟩ := z_prs_of ad ls 0 q hq
  rw [h2, Nat.zero_add]
  exact h.2.2 i v h1
theorem z_cat_tv (ad : Nat → Nat) (v : Value) : (z_tv ad v).category = v.category := by cases v <;> rfl
/-- a store of an int or a reference where no long lies -/
theorem z_lr_set {ad : Nat → Nat} {ml : Nat} {ls : zL} {lsC lsC' : Array Slot} {a : Nat} {v : Value} (h : z_lr ad ml ls lsC) (hn : ls.any z_isl = false)
    (h' : lv_has lsC' ml ((a, z_tv ad v) :: (z_prs ad 0 ls).filter (fun q => !(q.1 == a) && !(q.1 + 1 == a && q.2.category == 2)))) : z_lr ad ml (ls.set a (some v)) lsC' := by
  refine ⟨by rw [List.length_set]; exact h.1, ⟨h'.1, h'.2.1, fun q hq => by simp at hq⟩, fun i w hi => ?_⟩
  by_cases hia : i = a
  · subst hia
    rw [List.getElem?_set] at hi
    by_cases hl : i < ls.length
    · simp [hl] at hi
      subst hi
      exact h'.2.2 (i, z_tv ad v) List.mem_cons_self
    · simp [hl] at hi
  · rw [List.getElem?_set_ne (Ne.symm hia)] at hi
    refine h'.2.2 (i, z_tv ad w) (List.mem_cons_of_mem _ (List.mem_filter.mpr ⟨?_, ?_⟩))
    · have := z_prs_mem ad ls 0 i w hi
      rwa [Nat.zero_add] at this
    · have hc : ¬ w.category = 2 := fun hc => by
        have h1 : z_isl (some w) = true := by cases w <;> first | rfl | (simp [Value.category] at hc; done)
        have h2 := List.any_eq_false.mp hn (some w) (List.mem_of_getElem? hi)
        exact h2 h1
      simp only [z_cat_tv]
      simp [hia, hc]
