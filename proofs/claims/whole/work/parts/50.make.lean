/-! worlds under construction: as zw, but kind 4 is a row of references with nulls (0 null, t + 1 the cell t) -/
def zce' (cs : Nat → ClassId) (α : Nat → Nat) (f : Nat → Int) (d : zD) : va_E := match d with
  | (4, q, ts) => .inl (cs q, ts.length, .inr (.inr (.inr (.inr (fun i => (ts[i]?).bind (fun t => if t = 0 then none else some (α (t - 1))))))))
  | d => zce cs α f d
def zv (cs : Nat → ClassId) (L : List zD) (α : Nat → Nat) (M : zM) : va_W := (List.range L.length).map (fun k => (α k, zce' cs α (M k) (L.getD k (9, 0, []))))
theorem zv_len (cs : Nat → ClassId) (L : List zD) (α : Nat → Nat) (M : zM) : (zv cs L α M).length = L.length := by unfold zv; rw [List.length_map, List.length_range]
theorem zv_at {cs : Nat → ClassId} {L : List zD} {α : Nat → Nat} {M : zM} {k : Nat} {d : zD} (h : L[k]? = some d) : (zv cs L α M)[k]? = some (α k, zce' cs α (M k) d) := by
  have hl := (List.getElem?_eq_some_iff.mp h).1
  unfold zv
  rw [List.getElem?_map, List.getElem?_range hl, Option.map_some, List.getD_eq_getElem?_getD, h, Option.getD_some]
theorem zv_of {cs : Nat → ClassId} {L : List zD} {α : Nat → Nat} {M : zM} {k : Nat} {q : Nat × va_E} (h : (zv cs L α M)[k]? = some q) : ∃ d, L[k]? = some d ∧ q = (α k, zce' cs α (M k) d) := by
  have hl : k < L.length := by have := (List.getElem?_eq_some_iff.mp h).1; rwa [zv_len] at this
  obtain ⟨d, hd⟩ : ∃ d, L[k]? = some d := ⟨_, List.getElem?_eq_getElem hl⟩
  rw [zv_at hd] at h
  exact ⟨d, hd, (Option.some.inj h).symm⟩
/-- the cells that a shape names lie below n -/
def zrf (n : Nat) (d : zD) : Bool := match d with
  | (0, _, fs) => fs.all (fun c => decide (c < n + 2))
  | (1, _, _) => true
  | (2, _, _) => true
  | (4, _, ts) => ts.all (fun t => decide (t < n + 1))
  | (_, _, ts) => ts.all (fun t => decide (t < n))
theorem zfs_al {α α' : Nat → Nat} {f : Nat → Int} {n : Nat} (ha : ∀ t, t < n → α t = α' t) : ∀ (fs : List Nat) (o : Nat), (∀ c, c ∈ fs → c < n + 2) → zfs α f o fs = zfs α' f o fs
  | [], _, _ => rfl
  | c :: l, o, h => by
    have hc := h c (by simp)
    show zfv α (f o) c :: zfs α f (o + 1) l = zfv α' (f o) c :: zfs α' f (o + 1) l
    rw [zfs_al ha l (o + 1) (fun c hc => h c (by simp [hc]))]
    congr 1
    match c, hc with
    | 0, _ => rfl
    | 1, _ => rfl
    | t + 2, hc =>
      show Value.ref (α t) = Value.ref (α' t)
      rw [ha t (by omega)]
theorem zce'_al {cs : Nat → ClassId} {α α' : Nat → Nat} {f : Nat → Int} {n : Nat} (ha : ∀ t, t < n → α t = α' t) {d : zD} (h : zrf n d = true) : zce' cs α f d = zce' cs α' f d := by
  obtain ⟨k, q, ts⟩ := d
  match k, h with
  | 0, h =>
    show (Sum.inr (q, zfs α f 0 ts) : va_E) = Sum.inr (q, zfs α' f 0 ts)
    rw [zfs_al ha ts 0 (fun c hc => by simpa using List.all_eq_true.mp h c hc)]
  | 1, _ => rfl
  | 2, _ => rfl
  | 3, h =>
    have h : ts.all (fun t => decide (t < n)) = true := h
    have : (fun (i : Nat) => (ts[i]?).map α) = fun (i : Nat) => (ts[i]?).map α' := by
      funext i
      cases hi : ts[i]? with
      | none => rfl
      | some t =>
        have := List.all_eq_true.mp h t (List.mem_of_getElem? hi)
        show some (α t) = some (α' t)
        rw [ha t (by simpa using this)]
    show (.inl (cs q, ts.length, .inr (.inr (.inr (.inr (fun i => (ts[i]?).map α))))) : va_E) = .inl (cs q, ts.length, .inr (.inr (.inr (.inr (fun i => (ts[i]?).map α')))))
    rw [this]
  | 4, h =>
    have h : ts.all (fun t => decide (t < n + 1)) = true := h
    have : (fun (i : Nat) => (ts[i]?).bind (fun t => if t = 0 then none else some (α (t - 1)))) = fun (i : Nat) => (ts[i]?).bind (fun t => if t = 0 then none else some (α' (t - 1))) := by
      funext i
      cases hi : ts[i]? with
      | none => rfl
      | some t =>
        have := List.all_eq_true.mp h t (List.mem_of_getElem? hi)
        show (if t = 0 then none else some (α (t - 1))) = if t = 0 then none else some (α' (t - 1))
        by_cases h0 : t = 0
        · rw [if_pos h0, if_pos h0]
        · have h5 : t < n + 1 := by simpa using this
          rw [if_neg h0, if_neg h0, ha (t - 1) (by omega)]
    show (.inl (cs q, ts.length, .inr (.inr (.inr (.inr (fun i => (ts[i]?).bind (fun t => if t = 0 then none else some (α (t - 1)))))))) : va_E) = .inl (cs q, ts.length, .inr (.inr (.inr (.inr (fun i => (ts[i]?).bind (fun t => if t = 0 then none else some (α' (t - 1))))))))
    rw [this]
  | k + 5, h =>
    have h : ts.all (fun t => decide (t < n)) = true := h
    have : (fun (i : Nat) => (ts[i]?).map α) = fun (i : Nat) => (ts[i]?).map α' := by
      funext i
      cases hi : ts[i]? with
      | none => rfl
      | some t =>
        have := List.all_eq_true.mp h t (List.mem_of_getElem? hi)
        show some (α t) = some (α' t)
        rw [ha t (by simpa using this)]
    show (.inl (cs q, ts.length, .inr (.inr (.inr (.inr (fun i => (ts[i]?).map α))))) : va_E) = .inl (cs q, ts.length, .inr (.inr (.inr (.inr (fun i => (ts[i]?).map α')))))
    rw [this]
/-- a new cell's address -/
def zal (α : Nat → Nat) (n q : Nat) : Nat → Nat := fun k => if k = n then q else α k
def zrs (L : List zD) : Bool := L.all (zrf L.length)
theorem zv_push {cs : Nat → ClassId} {L : List zD} {α : Nat → Nat} {M : zM} {d : zD} {q : Nat} (hL : zrs L = true) (hd : zrf L.length d = true) : zv cs (L ++ [d]) (zal α L.length q) M = zv cs L α M ++ [(q, zce' cs α (M L.length) d)] := by
  have ha : ∀ t, t < L.length → zal α L.length q t = α t := fun t ht => by
    unfold zal
    rw [if_neg (by omega)]
  apply List.ext_getElem?
  intro j
  by_cases hj : j < L.length
  · obtain ⟨d', hd'⟩ : ∃ d', L[j]? = some d' := ⟨_, List.getElem?_eq_getElem hj⟩
    rw [zv_at (d := d') (by rw [List.getElem?_append_left hj]; exact hd'), List.getElem?_append_left (by rw [zv_len]; exact hj), zv_at hd', ha j hj, zce'_al ha (List.all_eq_true.mp hL d' (List.mem_of_getElem? hd'))]
  · by_cases hj2 : j = L.length
    · subst hj2
      rw [zv_at (d := d) (by simp), List.getElem?_append_right (by rw [zv_len]; omega), zv_len, Nat.sub_self]
      show some (zal α L.length q L.length, _) = some (q, _)
      have : zal α L.length q L.length = q := by unfold zal; rw [if_pos rfl]
      rw [this, zce'_al ha hd]
    · rw [List.getElem?_eq_none (by rw [zv_len, List.length_append]; simp; omega), List.getElem?_eq_none (by rw [List.length_append, zv_len]; simp; omega)]
