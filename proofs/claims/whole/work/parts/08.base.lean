/-! ideal numbers: nZ a is the int that the number a wraps to, nY the long -/
def nZ (a : Int) : Int32 := Int32.ofInt a
def nY (a : Int) : Int64 := Int64.ofInt a
abbrev zR (a : Int) : Prop := -2147483648 ≤ a ∧ a ≤ 2147483647
abbrev zRL (a : Int) : Prop := -9223372036854775808 ≤ a ∧ a ≤ 9223372036854775807
theorem nZ_toInt {a : Int} (h : zR a) : (nZ a).toInt = a := Int32.toInt_ofInt_of_le (by have := h.1; omega) (by have := h.2; omega)
theorem nY_toInt {a : Int} (h : zRL a) : (nY a).toInt = a := Int64.toInt_ofInt_of_le (by have := h.1; omega) (by have := h.2; omega)
theorem nZ_of (x : Int32) : nZ x.toInt = x := Int32.ofInt_toInt x
theorem nY_of (x : Int64) : nY x.toInt = x := Int64.ofInt_toInt x
theorem nZ_add (a b : Int) : nZ a + nZ b = nZ (a + b) := (Int32.ofInt_add a b).symm
theorem nZ_sub (a b : Int) : nZ a - nZ b = nZ (a - b) := (Int32.ofInt_sub a b).symm
theorem nZ_mul (a b : Int) : nZ a * nZ b = nZ (a * b) := (Int32.ofInt_mul a b).symm
theorem nZ_lt {a b : Int} (ha : zR a) (hb : zR b) : nZ a < nZ b ↔ a < b := by rw [Int32.lt_iff_toInt_lt, nZ_toInt ha, nZ_toInt hb]
theorem nZ_le {a b : Int} (ha : zR a) (hb : zR b) : nZ a ≤ nZ b ↔ a ≤ b := by rw [Int32.le_iff_toInt_le, nZ_toInt ha, nZ_toInt hb]
theorem nZ_eq {a b : Int} (ha : zR a) (hb : zR b) : nZ a = nZ b ↔ a = b := ⟨fun h => by rw [← nZ_toInt ha, ← nZ_toInt hb, h], fun h => by rw [h]⟩
theorem nZ_0 : nZ 0 = 0 := rfl
theorem nZ_clamp {a : Int} (h : 0 ≤ a) (h2 : a ≤ 2147483647) : (nZ a).toNatClampNeg = a.toNat := Int32.toNatClampNeg_ofInt_of_le (by omega) (by omega)
theorem nZ_in {a : Int} {n : Nat} (h : 0 ≤ a ∧ a < (n : Int)) (hn : n ≤ 2147483647) : vp_in (nZ a) n := by
  have hr : zR a := ⟨by omega, by omega⟩
  rw [vp_in_iff, nZ_toInt hr]
  exact h
theorem nZ_cl {a : Int} {n : Nat} (h : 0 ≤ a ∧ a < (n : Int)) (hn : n ≤ 2147483647) : (nZ a).toNatClampNeg = a.toNat := nZ_clamp h.1 (by omega)
/-! a computation that may stop -/
def zg {β : Type} (c : Prop) [Decidable c] (x : Option β) : Option β := if c then x else none
def zi {β : Type} (c : Prop) [Decidable c] (x y : Option β) : Option β := if c then x else y
def zl {α β : Type} (x : α) (f : α → β) : β := f x
def zc {α β : Type} (x : Option α) (f : α → Option β) : Option β := match x with
  | none => none
  | some a => f a
theorem zg_e {β : Type} {c : Prop} [Decidable c] {x : Option β} {r : β} (h : zg c x = some r) : c ∧ x = some r := by
  unfold zg at h
  by_cases hc : c
  · rw [if_pos hc] at h; exact ⟨hc, h⟩
  · rw [if_neg hc] at h; cases h
theorem zi_t {β : Type} {c : Prop} [Decidable c] {x y : Option β} {r : Option β} (h : zi c x y = r) (hc : c) : x = r := by
  unfold zi at h
  rw [if_pos hc] at h
  exact h
theorem zi_f {β : Type} {c : Prop} [Decidable c] {x y : Option β} {r : Option β} (h : zi c x y = r) (hc : ¬ c) : y = r := by
  unfold zi at h
  rw [if_neg hc] at h
  exact h
theorem zl_e {α β : Type} {x : α} {f : α → β} {r : β} (h : zl x f = r) : ∃ y, y = x ∧ f y = r := ⟨x, rfl, h⟩
theorem zc_e {α β : Type} {x : Option α} {f : α → Option β} {r : β} (h : zc x f = some r) : ∃ a, x = some a ∧ f a = some r := by
  cases x with
  | none => cases h
  | some a => exact ⟨a, rfl, h⟩
/-! memories and shapes: cell k, place i holds the number M k i; a shape tells of each cell what it is: (0, its number in the list, fields: 0 a number, 1 null, t + 2 the cell t), (1, length, []) ints, (2, length, []) longs, (3, which row of types, cells) references -/
abbrev zM : Type := Nat → Nat → Int
def zup (M : zM) (k i : Nat) (v : Int) : zM := fun a b => if a = k ∧ b = i then v else M a b
abbrev zD : Type := Nat × Nat × List Nat
def zfv (α : Nat → Nat) (x : Int) (c : Nat) : Value := match c with
  | 0 => .int (nZ x)
  | 1 => .null
  | t + 2 => .ref (α t)
def zfs (α : Nat → Nat) (f : Nat → Int) : Nat → List Nat → List Value
  | _, [] => []
  | j, c :: l => zfv α (f j) c :: zfs α f (j + 1) l
def zce (cs : Nat → ClassId) (α : Nat → Nat) (f : Nat → Int) (d : zD) : va_E := match d with
  | (0, ci, fs) => .inr (ci, zfs α f 0 fs)
  | (1, n, _) => .inl (cs 0, n, .inl (fun i => nZ (f i)))
  | (2, n, _) => .inl (cs 1, n, .inr (.inl (fun i => nY (f i))))
  | (_, q, ts) => .inl (cs q, ts.length, .inr (.inr (.inr (.inr (fun i => (ts[i]?).map α)))))
def zw (cs : Nat → ClassId) (L : List zD) (α : Nat → Nat) (M : zM) : va_W := (List.range L.length).map (fun k => (α k, zce cs α (M k) (L.getD k (9, 0, []))))
abbrev zt (cs : Nat → ClassId) : List (ClassId × FieldType) := [(cs 0, .int), (cs 1, .long), (cs 2, .object RX4), (cs 3, .object RX6), (cs 4, .array .int), (cs 5, .array .long)]
theorem zw_len (cs : Nat → ClassId) (L : List zD) (α : Nat → Nat) (M : zM) : (zw cs L α M).length = L.length := by unfold zw; rw [List.length_map, List.length_range]
theorem zw_at {cs : Nat → ClassId} {L : List zD} {α : Nat → Nat} {M : zM} {k : Nat} {d : zD} (h : L[k]? = some d) : (zw cs L α M)[k]? = some (α k, zce cs α (M k) d) := by
  have hl := (List.getElem?_eq_some_iff.mp h).1
  unfold zw
  rw [List.getElem?_map, List.getElem?_range hl, Option.map_some, List.getD_eq_getElem?_getD, h, Option.getD_some]
theorem zw_of {cs : Nat → ClassId} {L : List zD} {α : Nat → Nat} {M : zM} {k : Nat} {q : Nat × va_E} (h : (zw cs L α M)[k]? = some q) : ∃ d, L[k]? = some d ∧ q = (α k, zce cs α (M k) d) := by
  have hl : k < L.length := by have := (List.getElem?_eq_some_iff.mp h).1; rwa [zw_len] at this
  obtain ⟨d, hd⟩ : ∃ d, L[k]? = some d := ⟨_, List.getElem?_eq_getElem hl⟩
  rw [zw_at hd] at h
  exact ⟨d, hd, (Option.some.inj h).symm⟩
theorem zw_set {cs : Nat → ClassId} {L : List zD} {α : Nat → Nat} {M M' : zM} {k : Nat} {d : zD} {e : va_E} (h : L[k]? = some d) (hM : ∀ k', k' ≠ k → M' k' = M k') (he : e = zce cs α (M' k) d) : (zw cs L α M).set k (α k, e) = zw cs L α M' := by
  subst he
  have hl := (List.getElem?_eq_some_iff.mp h).1
  apply List.ext_getElem?
  intro j
  by_cases hj : j = k
  · subst hj
    rw [List.getElem?_set_self (by rw [zw_len]; exact hl), zw_at h]
  · rw [List.getElem?_set_ne (Ne.symm hj)]
    by_cases hjl : j < L.length
    · obtain ⟨d', hd'⟩ : ∃ d', L[j]? = some d' := ⟨_, List.getElem?_eq_getElem hjl⟩
      rw [zw_at hd', zw_at hd', hM j hj]
    · rw [List.getElem?_eq_none (by rw [zw_len]; omega), List.getElem?_eq_none (by rw [zw_len]; omega)]
theorem zup_ne {M : zM} {k i : Nat} {v : Int} {k' : Nat} (h : k' ≠ k) : zup M k i v k' = M k' := by
  funext b
  unfold zup
  rw [if_neg (fun q => h q.1)]
theorem zup_self (M : zM) (k i : Nat) (v : Int) (b : Nat) : zup M k i v k b = if b = i then v else M k b := by
  unfold zup
  by_cases hb : b = i
  · rw [if_pos ⟨rfl, hb⟩, if_pos hb]
  · rw [if_neg (fun q => hb q.2), if_neg hb]
theorem zfs_get (α : Nat → Nat) (f : Nat → Int) : ∀ (fs : List Nat) (o j : Nat), (zfs α f o fs)[j]? = (fs[j]?).map (fun c => zfv α (f (o + j)) c)
  | [], o, j => by simp [zfs]
  | c :: l, o, 0 => by simp [zfs]
  | c :: l, o, j + 1 => by
    show (zfv α (f o) c :: zfs α f (o + 1) l)[j + 1]? = _
    rw [List.getElem?_cons_succ, List.getElem?_cons_succ, zfs_get α f l (o + 1) j, show o + 1 + j = o + (j + 1) by omega]
theorem zfs_len (α : Nat → Nat) (f : Nat → Int) : ∀ (fs : List Nat) (o : Nat), (zfs α f o fs).length = fs.length
  | [], o => rfl
  | c :: l, o => by show (_ :: zfs α f (o + 1) l).length = _; rw [List.length_cons, List.length_cons, zfs_len α f l (o + 1)]
theorem zfs_set {α : Nat → Nat} {f g : Nat → Int} {fs : List Nat} {j : Nat} {v : Int} (hj : fs[j]? = some 0) (hg : ∀ i, g i = if i = j then v else f i) : (zfs α f 0 fs).set j (.int (nZ v)) = zfs α g 0 fs := by
  have hl := (List.getElem?_eq_some_iff.mp hj).1
  apply List.ext_getElem?
  intro i
  by_cases hi : i = j
  · subst hi
    rw [List.getElem?_set_self (by rw [zfs_len]; exact hl), zfs_get, hj, Nat.zero_add, hg, if_pos rfl]
    rfl
  · rw [List.getElem?_set_ne (Ne.symm hi), zfs_get, zfs_get, Nat.zero_add, hg, if_neg hi]
theorem zce_up1 (cs : Nat → ClassId) (α : Nat → Nat) (M : zM) (k n i : Nat) (v : Int) (l : List Nat) : (.inl (cs 0, n, .inl (upd (fun i => nZ (M k i)) i (nZ v))) : va_E) = zce cs α (zup M k i v k) (1, n, l) := by
  show _ = (.inl (cs 0, n, .inl (fun b => nZ (zup M k i v k b))) : va_E)
  have : (upd (fun i => nZ (M k i)) i (nZ v)) = fun b => nZ (zup M k i v k b) := by
    funext b
    rw [zup_self]
    unfold upd
    by_cases hb : b = i
    · rw [if_pos hb, if_pos hb]
    · rw [if_neg hb, if_neg hb]
  rw [this]
theorem zce_up2 (cs : Nat → ClassId) (α : Nat → Nat) (M : zM) (k n i : Nat) (v : Int) (l : List Nat) : (.inl (cs 1, n, .inr (.inl (vp_updL (fun i => nY (M k i)) i (nY v)))) : va_E) = zce cs α (zup M k i v k) (2, n, l) := by
  show _ = (.inl (cs 1, n, .inr (.inl (fun b => nY (zup M k i v k b)))) : va_E)
  have : (vp_updL (fun i => nY (M k i)) i (nY v)) = fun b => nY (zup M k i v k b) := by
    funext b
    rw [zup_self]
    unfold vp_updL
    by_cases hb : b = i
    · rw [if_pos hb, if_pos hb]
    · rw [if_neg hb, if_neg hb]
  rw [this]
/-! what stands around a step -/
def zX (p : Program) (s : State) (m : MethodId) (args : Array Value) (c : Code) (cc : ByteArray) (nL : Nat) (D : va_G) (cs : Nat → ClassId) (own : String) (Ts : List Cond) : Prop :=
  CallFix p m c cc nL s args Ts own ∧ va_K D vwCl (zt cs) s
def zH (D : va_G) (cs : Nat → ClassId) (L : List zD) (α : Nat → Nat) (M : zM) (A : Nat → Prop) (s : State) (H : Heap) (locs : List Loc) : Prop :=
  va_P D vwCl (zw cs L α M) H ∧ va_D A (zw cs L α M) ∧ va_S A s.heap H locs
/-- a field that is read: number ci, place j, by entry 'index' of its owner's -/
def zF (own : String) (Ts : List Cond) (index ci j : Nat) : Prop := ∃ (C : String) (T : u_T) (N : Nat), vwCl[ci]? = some (C, T, N) ∧ (∀ w ∈ u_ws C T N, w ∈ Ts) ∧ Cond.fieldLink own index C (T j).2.1 (T j).2.2.1 ∈ Ts ∧ j < N ∧ (T j).1 = C
def zFp (own : String) (Ts : List Cond) (index ci j : Nat) (ty : FieldType) : Prop := ∃ (C : String) (T : u_T) (N : Nat) (ty0 : Nat → FieldType), vwCl[ci]? = some (C, T, N) ∧ (∀ w ∈ u_ws C T N, w ∈ Ts) ∧ Cond.fieldLink own index C (T j).2.1 (T j).2.2.1 ∈ Ts ∧ j < N ∧ (T j).1 = C ∧
  (∀ k, k < N → parseFieldDescriptor (T k).2.2.1 = some (ty0 k)) ∧ (∀ a, a < N → ∀ b, b < N → a ≠ b → (T a).2.1 ≠ (T b).2.1) ∧ (T j).2.2.2 = false ∧ parseFieldDescriptor (T j).2.2.1 = some ty
def zA (n : Nat) (α : Nat → Nat) : Nat → Prop := fun q => ∃ k, k < n ∧ q = α k
theorem zH_same {cs : Nat → ClassId} {L : List zD} {α : Nat → Nat} {M M' : zM} {A : Nat → Prop} (hD : va_D A (zw cs L α M)) : va_D A (zw cs L α M') := by
  have key : ∀ (k : Nat) (q : Nat × va_E), (zw cs L α M')[k]? = some q → ∃ q0, (zw cs L α M)[k]? = some q0 ∧ q0.1 = q.1 := by
    intro k q hq
    obtain ⟨d, hd, rfl⟩ := zw_of hq
    exact ⟨_, zw_at hd, rfl⟩
  refine ⟨fun i j x y hi hj hxy => ?_, fun k q hk => ?_⟩
  · obtain ⟨x0, h1, h2⟩ := key i x hi
    obtain ⟨y0, h3, h4⟩ := key j y hj
    exact hD.1 i j x0 y0 h1 h3 (h2.trans (hxy.trans h4.symm))
  · obtain ⟨q0, h1, h2⟩ := key k q hk
    rw [← h2]
    exact hD.2 k q0 h1
section ZR
variable {p : Program} {l : Launch} {e : Env} {R : Room} {s : State} {m : MethodId} {args : Array Value} {below : List Frame} {meth : Method} {c : Code} {H : Heap} {locs : List Loc} {cells slots : Nat} {Q : State → Prop}
variable {cc : ByteArray} {pc nL : Nat} {ls : Array Slot} {rest : List Value} {D : va_G} {cs : Nat → ClassId} {own : String} {Ts : List Cond} {L : List zD} {α : Nat → Nat} {M : zM} {A : Nat → Prop}
/-- a number is read out of a field -/
theorem z_geti (hX : zX p s m args c cc nL D cs own Ts) (hH : zH D cs L α M A s H locs) (k j : Nat) {index ci : Nat} {fs : List Nat} (hd : L[k]? = some (0, ci, fs)) (hf : fs[j]? = some 0) (hF : zF own Ts index ci j) (hdg : decode cc pc = .ok (.getfield index, 3))
    (kk : W p l e R s m args below meth c H locs cells slots Q (F0 m (pc + 3) ls (.int (nZ (M k j)) :: rest))) : W p l e R s m args below meth c H locs cells slots Q (F0 m pc ls (.ref (α k) :: rest)) := by
  obtain ⟨C, T, N, hc, hin, hlink, hj, hC⟩ := hF
  obtain ⟨⟨hx, hb, hml, hown, hts⟩, hK⟩ := hX
  refine va_get (v := .int (nZ (M k j))) hx hb hts hin hown hK hH.1 k (zw_at hd) hc j hj (hts _ hlink) (fun x h => by rw [hC] at h; exact h) ?_ hdg kk
  rw [zfs_get, hf, Nat.zero_add]
  rfl
/-- a reference is read out of a field -/
theorem z_getr (hX : zX p s m args c cc nL D cs own Ts) (hH : zH D cs L α M A s H locs) (k j t : Nat) {index ci : Nat} {fs : List Nat} (hd : L[k]? = some (0, ci, fs)) (hf : fs[j]? = some (t + 2)) (hF : zF own Ts index ci j) (hdg : decode cc pc = .ok (.getfield index, 3))
    (kk : W p l e R s m args below meth c H locs cells slots Q (F0 m (pc + 3) ls (.ref (α t) :: rest))) : W p l e R s m args below meth c H locs cells slots Q (F0 m pc ls (.ref (α k) :: rest)) := by
  obtain ⟨C, T, N, hc, hin, hlink, hj, hC⟩ := hF
  obtain ⟨⟨hx, hb, hml, hown, hts⟩, hK⟩ := hX
  refine va_get (v := .ref (α t)) hx hb hts hin hown hK hH.1 k (zw_at hd) hc j hj (hts _ hlink) (fun x h => by rw [hC] at h; exact h) ?_ hdg kk
  rw [zfs_get, hf]
  rfl
/-- null is read out of a field -/
theorem z_getn (hX : zX p s m args c cc nL D cs own Ts) (hH : zH D cs L α M A s H locs) (k j : Nat) {index ci : Nat} {fs : List Nat} (hd : L[k]? = some (0, ci, fs)) (hf : fs[j]? = some 1) (hF : zF own Ts index ci j) (hdg : decode cc pc = .ok (.getfield index, 3))
    (kk : W p l e R s m args below meth c H locs cells slots Q (F0 m (pc + 3) ls (.null :: rest))) : W p l e R s m args below meth c H locs cells slots Q (F0 m pc ls (.ref (α k) :: rest)) := by
  obtain ⟨C, T, N, hc, hin, hlink, hj, hC⟩ := hF
  obtain ⟨⟨hx, hb, hml, hown, hts⟩, hK⟩ := hX
  refine va_get (v := .null) hx hb hts hin hown hK hH.1 k (zw_at hd) hc j hj (hts _ hlink) (fun x h => by rw [hC] at h; exact h) ?_ hdg kk
  rw [zfs_get, hf]
  rfl
/-- a number is written into a field -/
theorem z_put {M1 : zM} (hX : zX p s m args c cc nL D cs own Ts) (hH : zH D cs L α M A s H locs) (k j : Nat) {index ci : Nat} {fs : List Nat} {ty : FieldType} {v : Int} (eM : M1 = zup M k j v) (hd : L[k]? = some (0, ci, fs)) (hf : fs[j]? = some 0) (hF : zFp own Ts index ci j ty) (hn : narrow ty (.int (nZ v)) = .int (nZ v)) (hfit : fits ty (.int (nZ v)) = true) (hdg : decode cc pc = .ok (.putfield index, 3))
    (kk : ∀ (H1 : Heap) (locs1 : List Loc), zH D cs L α M1 A s H1 locs1 → W p l e R s m args below meth c H1 locs1 cells slots Q (F0 m (pc + 3) ls rest)) : W p l e R s m args below meth c H locs cells slots Q (F0 m pc ls (.int (nZ v) :: .ref (α k) :: rest)) := by
  subst eM
  obtain ⟨C, T, N, ty0, hc, hin, hlink, hj, hC, hty, hnm, hfin, hty1⟩ := hF
  obtain ⟨⟨hx, hb, hml, hown, hts⟩, hK⟩ := hX
  have hl := (List.getElem?_eq_some_iff.mp hf).1
  have hset : (zw cs L α M).set k (α k, .inr (ci, (zfs α (M k) 0 fs).set j (.int (nZ v)))) = zw cs L α (zup M k j v) := zw_set hd (fun k' hk' => zup_ne hk') (by
    show _ = (.inr (ci, zfs α (zup M k j v k) 0 fs) : va_E)
    rw [zfs_set (v := v) hf (fun i => zup_self M k j v i)])
  refine va_put (v := .int (nZ v)) (ty := ty) hx hb hts hin ty0 hty hnm hown hK hH.1 hH.2.1 hH.2.2 k (zw_at hd) hc j hj (hts _ hlink) (fun x h => by rw [hC] at h; exact h) hfin hty1 hn hfit (by rw [zfs_len]; exact hl) hdg (fun H1 locs1 hP hD hS => kk H1 locs1 ⟨?_, zH_same hH.2.1, hS⟩)
  rw [← hset]
  exact hP
/-- an int is read out of a row -/
theorem z_iald (hX : zX p s m args c cc nL D cs own Ts) (hH : zH D cs L α M A s H locs) (k n : Nat) {i : Int} (hd : L[k]? = some (1, n, [])) (hi : 0 ≤ i ∧ i < (n : Int)) (hn : n ≤ 2147483647) (hdg : decode cc pc = .ok (.iaload, 1))
    (kk : W p l e R s m args below meth c H locs cells slots Q (F0 m (pc + 1) ls (.int (nZ (M k i.toNat)) :: rest))) : W p l e R s m args below meth c H locs cells slots Q (F0 m pc ls (.int (nZ i) :: .ref (α k) :: rest)) := by
  obtain ⟨⟨hx, hb, hml, hown, hts⟩, hK⟩ := hX
  refine va_iald (cA := cs 0) (n := n) (f := fun b => nZ (M k b)) hx hb hK hH.1 k 0 (zw_at hd) rfl (nZ_in hi hn) hdg ?_
  rw [nZ_cl hi hn]
  exact kk
theorem z_lald (hX : zX p s m args c cc nL D cs own Ts) (hH : zH D cs L α M A s H locs) (k n : Nat) {i : Int} (hd : L[k]? = some (2, n, [])) (hi : 0 ≤ i ∧ i < (n : Int)) (hn : n ≤ 2147483647) (hdg : decode cc pc = .ok (.laload, 1))
    (kk : W p l e R s m args below meth c H locs cells slots Q (F0 m (pc + 1) ls (.long (nY (M k i.toNat)) :: rest))) : W p l e R s m args below meth c H locs cells slots Q (F0 m pc ls (.int (nZ i) :: .ref (α k) :: rest)) := by
  obtain ⟨⟨hx, hb, hml, hown, hts⟩, hK⟩ := hX
  refine va_lald (cA := cs 1) (n := n) (f := fun b => nY (M k b)) hx hb hK hH.1 k 1 (zw_at hd) rfl (nZ_in hi hn) hdg ?_
  rw [nZ_cl hi hn]
  exact kk
theorem z_iast {M1 : zM} (hX : zX p s m args c cc nL D cs own Ts) (hH : zH D cs L α M A s H locs) (k n : Nat) {i : Int} {i0 : Nat} {v : Int} (eM : M1 = zup M k i0 v) (hd : L[k]? = some (1, n, [])) (hi : 0 ≤ i ∧ i < (n : Int)) (hn : n ≤ 2147483647) (hdg : decode cc pc = .ok (.iastore, 1))
    (kk : ∀ (H1 : Heap) (locs1 : List Loc), zH D cs L α M1 A s H1 locs1 → W p l e R s m args below meth c H1 locs1 cells slots Q (F0 m (pc + 1) ls rest)) (hi0 : i0 = i.toNat := by rfl) : W p l e R s m args below meth c H locs cells slots Q (F0 m pc ls (.int (nZ v) :: .int (nZ i) :: .ref (α k) :: rest)) := by
  subst hi0
  subst eM
  obtain ⟨⟨hx, hb, hml, hown, hts⟩, hK⟩ := hX
  refine va_iast (cA := cs 0) (n := n) (f := fun b => nZ (M k b)) hx hb hK hH.1 hH.2.1 hH.2.2 k 0 (zw_at hd) rfl (nZ_in hi hn) hdg (fun H1 locs1 hP hD hS => kk H1 locs1 ⟨?_, zH_same hH.2.1, hS⟩)
  rw [nZ_cl hi hn] at hP
  rw [← zw_set (e := _) hd (fun k' hk' => zup_ne hk') (zce_up1 cs α M k n i.toNat v [])]
  exact hP
theorem z_last {M1 : zM} (hX : zX p s m args c cc nL D cs own Ts) (hH : zH D cs L α M A s H locs) (k n : Nat) {i : Int} {i0 : Nat} {v : Int} (eM : M1 = zup M k i0 v) (hd : L[k]? = some (2, n, [])) (hi : 0 ≤ i ∧ i < (n : Int)) (hn : n ≤ 2147483647) (hdg : decode cc pc = .ok (.lastore, 1))
    (kk : ∀ (H1 : Heap) (locs1 : List Loc), zH D cs L α M1 A s H1 locs1 → W p l e R s m args below meth c H1 locs1 cells slots Q (F0 m (pc + 1) ls rest)) (hi0 : i0 = i.toNat := by rfl) : W p l e R s m args below meth c H locs cells slots Q (F0 m pc ls (.long (nY v) :: .int (nZ i) :: .ref (α k) :: rest)) := by
  subst hi0
  subst eM
  obtain ⟨⟨hx, hb, hml, hown, hts⟩, hK⟩ := hX
  refine va_last (cA := cs 1) (n := n) (f := fun b => nY (M k b)) hx hb hK hH.1 hH.2.1 hH.2.2 k 1 (zw_at hd) rfl (nZ_in hi hn) hdg (fun H1 locs1 hP hD hS => kk H1 locs1 ⟨?_, zH_same hH.2.1, hS⟩)
  rw [nZ_cl hi hn] at hP
  rw [← zw_set (e := _) hd (fun k' hk' => zup_ne hk') (zce_up2 cs α M k n i.toNat v [])]
  exact hP
/-- a reference is read out of a row of references: rows 'q' of the types -/
theorem z_aald (hX : zX p s m args c cc nL D cs own Ts) (hH : zH D cs L α M A s H locs) (k q t : Nat) {ts : List Nat} {ty : FieldType} {i : Int} (hd : L[k]? = some (3, q, ts)) (hq : (zt cs)[q]? = some (cs q, ty)) (hty : ty.isReference = true) (hi : 0 ≤ i ∧ i < (ts.length : Int)) (hn : ts.length ≤ 2147483647) (ht : ts[i.toNat]? = some t) (hdg : decode cc pc = .ok (.aaload, 1))
    (kk : W p l e R s m args below meth c H locs cells slots Q (F0 m (pc + 1) ls (.ref (α t) :: rest))) : W p l e R s m args below meth c H locs cells slots Q (F0 m pc ls (.int (nZ i) :: .ref (α k) :: rest)) := by
  obtain ⟨⟨hx, hb, hml, hown, hts⟩, hK⟩ := hX
  have hin := nZ_in hi hn
  have hlt : (nZ i).toNatClampNeg < ts.length := Nat.not_le.mp fun q => hin (Or.inr q)
  have hcell : H[α k]? = some (vp_cell (cs q) (ts.length, .inr (.inr (.inr (.inr (fun j => (ts[j]?).map α)))))) := hH.1 k _ (zw_at hd)
  rw [vp_cell_q] at hcell
  refine W.aald (v := .ref (α t)) (ty := ty) hx hb hcell ((hK.2 q _ hq).1 _ _) hty (fun q => by cases q) (by show ¬ (nZ i < 0 ∨ (arrV _ _ _).slots.size ≤ _); rw [arrV_size]; exact hin) (by rw [arrV_read _ _ hlt, nZ_cl hi hn, ht]; rfl) rfl rfl hdg kk
end ZR
/-! arithmetic and branches over ideal numbers -/
section ZB
variable {p : Program} {l : Launch} {e : Env} {R : Room} {s : State} {m : MethodId} {args : Array Value} {below : List Frame} {meth : Method} {c : Code} {H : Heap} {locs : List Loc} {cells slots : Nat} {Q : State → Prop}
variable {cc : ByteArray} {pc : Nat} {ls : Array Slot} {rest : List Value}
theorem z_iadd (hx : p.tables.exec = Jvm.exec) (hb : c.code = cc) {a b : Int} (hdg : decode cc pc = .ok (.iadd, 1)) (kk : W p l e R s m args below meth c H locs cells slots Q (F0 m (pc + 1) ls (.int (nZ (a + b)) :: rest))) : W p l e R s m args below meth c H locs cells slots Q (F0 m pc ls (.int (nZ b) :: .int (nZ a) :: rest)) := lv_iadd hx hb hdg (by rw [nZ_add]; exact kk)
theorem z_isub (hx : p.tables.exec = Jvm.exec) (hb : c.code = cc) {a b : Int} (hdg : decode cc pc = .ok (.isub, 1)) (kk : W p l e R s m args below meth c H locs cells slots Q (F0 m (pc + 1) ls (.int (nZ (a - b)) :: rest))) : W p l e R s m args below meth c H locs cells slots Q (F0 m pc ls (.int (nZ b) :: .int (nZ a) :: rest)) := lv_isub hx hb hdg (by rw [nZ_sub]; exact kk)
theorem z_imul (hx : p.tables.exec = Jvm.exec) (hb : c.code = cc) {a b : Int} (hdg : decode cc pc = .ok (.imul, 1)) (kk : W p l e R s m args below meth c H locs cells slots Q (F0 m (pc + 1) ls (.int (nZ (a * b)) :: rest))) : W p l e R s m args below meth c H locs cells slots Q (F0 m pc ls (.int (nZ b) :: .int (nZ a) :: rest)) := lv_imul hx hb hdg (by rw [nZ_mul]; exact kk)
theorem z_bipush (hx : p.tables.exec = Jvm.exec) (hb : c.code = cc) {n v : Int} (hdg : decode cc pc = .ok (.bipush n, 2)) (hv : (Int8.ofInt n).toInt32 = nZ v) (kk : W p l e R s m args below meth c H locs cells slots Q (F0 m (pc + 2) ls (.int (nZ v) :: rest))) : W p l e R s m args below meth c H locs cells slots Q (F0 m pc ls rest) := lv_bipush hx hb hdg hv kk
theorem z_sipush (hx : p.tables.exec = Jvm.exec) (hb : c.code = cc) {n v : Int} (hdg : decode cc pc = .ok (.sipush n, 3)) (hv : (Int16.ofInt n).toInt32 = nZ v) (kk : W p l e R s m args below meth c H locs cells slots Q (F0 m (pc + 3) ls (.int (nZ v) :: rest))) : W p l e R s m args below meth c H locs cells slots Q (F0 m pc ls rest) := lv_sipush hx hb hdg hv kk
theorem z_iconst (hx : p.tables.exec = Jvm.exec) (hb : c.code = cc) {n : Int} (hdg : decode cc pc = .ok (.iconst n, 1)) (kk : W p l e R s m args below meth c H locs cells slots Q (F0 m (pc + 1) ls (.int (nZ n) :: rest))) : W p l e R s m args below meth c H locs cells slots Q (F0 m pc ls rest) := lv_iconst hx hb hdg rfl kk
theorem z_if_eq (hx : p.tables.exec = Jvm.exec) (hb : c.code = cc) {a : Int} (ha : zR a) {off : Int} {tgt : Nat} (hdg : decode cc pc = .ok (.ifCond .eq off, 3)) (ht : (pc : Int) + off = (tgt : Int))
    (kt : a = 0 → W p l e R s m args below meth c H locs cells slots Q (F0 m tgt ls rest)) (kf : ¬ a = 0 → W p l e R s m args below meth c H locs cells slots Q (F0 m (pc + 3) ls rest)) : W p l e R s m args below meth c H locs cells slots Q (F0 m pc ls (.int (nZ a) :: rest)) :=
  lv_if_eq hx hb hdg ht (fun h => kt ((nZ_eq ha (by decide)).mp h)) (fun h => kf (fun q => h ((nZ_eq ha (by decide)).mpr q)))
theorem z_if_ne (hx : p.tables.exec = Jvm.exec) (hb : c.code = cc) {a : Int} (ha : zR a) {off : Int} {tgt : Nat} (hdg : decode cc pc = .ok (.ifCond .ne off, 3)) (ht : (pc : Int) + off = (tgt : Int))
    (kt : ¬ a = 0 → W p l e R s m args below meth c H locs cells slots Q (F0 m tgt ls rest)) (kf : a = 0 → W p l e R s m args below meth c H locs cells slots Q (F0 m (pc + 3) ls rest)) : W p l e R s m args below meth c H locs cells slots Q (F0 m pc ls (.int (nZ a) :: rest)) :=
  lv_if_ne hx hb hdg ht (fun h => kt (fun q => h ((nZ_eq ha (by decide)).mpr q))) (fun h => kf ((nZ_eq ha (by decide)).mp h))
theorem z_if_lt (hx : p.tables.exec = Jvm.exec) (hb : c.code = cc) {a : Int} (ha : zR a) {off : Int} {tgt : Nat} (hdg : decode cc pc = .ok (.ifCond .lt off, 3)) (ht : (pc : Int) + off = (tgt : Int))
    (kt : a < 0 → W p l e R s m args below meth c H locs cells slots Q (F0 m tgt ls rest)) (kf : ¬ a < 0 → W p l e R s m args below meth c H locs cells slots Q (F0 m (pc + 3) ls rest)) : W p l e R s m args below meth c H locs cells slots Q (F0 m pc ls (.int (nZ a) :: rest)) :=
  lv_if_lt hx hb hdg ht (fun h => kt ((nZ_lt ha (by decide)).mp h)) (fun h => kf (fun q => h ((nZ_lt ha (by decide)).mpr q)))
theorem z_if_ge (hx : p.tables.exec = Jvm.exec) (hb : c.code = cc) {a : Int} (ha : zR a) {off : Int} {tgt : Nat} (hdg : decode cc pc = .ok (.ifCond .ge off, 3)) (ht : (pc : Int) + off = (tgt : Int))
    (kt : 0 ≤ a → W p l e R s m args below meth c H locs cells slots Q (F0 m tgt ls rest)) (kf : ¬ 0 ≤ a → W p l e R s m args below meth c H locs cells slots Q (F0 m (pc + 3) ls rest)) : W p l e R s m args below meth c H locs cells slots Q (F0 m pc ls (.int (nZ a) :: rest)) :=
  lv_if_ge hx hb hdg ht (fun h => kt ((nZ_le (by decide) ha).mp h)) (fun h => kf (fun q => h ((nZ_le (by decide) ha).mpr q)))
theorem z_if_le (hx : p.tables.exec = Jvm.exec) (hb : c.code = cc) {a : Int} (ha : zR a) {off : Int} {tgt : Nat} (hdg : decode cc pc = .ok (.ifCond .le off, 3)) (ht : (pc : Int) + off = (tgt : Int))
    (kt : a ≤ 0 → W p l e R s m args below meth c H locs cells slots Q (F0 m tgt ls rest)) (kf : ¬ a ≤ 0 → W p l e R s m args below meth c H locs cells slots Q (F0 m (pc + 3) ls rest)) : W p l e R s m args below meth c H locs cells slots Q (F0 m pc ls (.int (nZ a) :: rest)) :=
  lv_if_le hx hb hdg ht (fun h => kt ((nZ_le ha (by decide)).mp h)) (fun h => kf (fun q => h ((nZ_le ha (by decide)).mpr q)))
theorem z_icmp_eq (hx : p.tables.exec = Jvm.exec) (hb : c.code = cc) {a b : Int} (ha : zR a) (hb2 : zR b) {off : Int} {tgt : Nat} (hdg : decode cc pc = .ok (.if_icmp .eq off, 3)) (ht : (pc : Int) + off = (tgt : Int))
    (kt : a = b → W p l e R s m args below meth c H locs cells slots Q (F0 m tgt ls rest)) (kf : ¬ a = b → W p l e R s m args below meth c H locs cells slots Q (F0 m (pc + 3) ls rest)) : W p l e R s m args below meth c H locs cells slots Q (F0 m pc ls (.int (nZ b) :: .int (nZ a) :: rest)) :=
  lv_icmp_eq hx hb hdg ht (fun h => kt ((nZ_eq ha hb2).mp h)) (fun h => kf (fun q => h ((nZ_eq ha hb2).mpr q)))
theorem z_icmp_ne (hx : p.tables.exec = Jvm.exec) (hb : c.code = cc) {a b : Int} (ha : zR a) (hb2 : zR b) {off : Int} {tgt : Nat} (hdg : decode cc pc = .ok (.if_icmp .ne off, 3)) (ht : (pc : Int) + off = (tgt : Int))
    (kt : ¬ a = b → W p l e R s m args below meth c H locs cells slots Q (F0 m tgt ls rest)) (kf : a = b → W p l e R s m args below meth c H locs cells slots Q (F0 m (pc + 3) ls rest)) : W p l e R s m args below meth c H locs cells slots Q (F0 m pc ls (.int (nZ b) :: .int (nZ a) :: rest)) :=
  lv_icmp_ne hx hb hdg ht (fun h => kt (fun q => h ((nZ_eq ha hb2).mpr q))) (fun h => kf ((nZ_eq ha hb2).mp h))
theorem z_icmp_lt (hx : p.tables.exec = Jvm.exec) (hb : c.code = cc) {a b : Int} (ha : zR a) (hb2 : zR b) {off : Int} {tgt : Nat} (hdg : decode cc pc = .ok (.if_icmp .lt off, 3)) (ht : (pc : Int) + off = (tgt : Int))
    (kt : a < b → W p l e R s m args below meth c H locs cells slots Q (F0 m tgt ls rest)) (kf : ¬ a < b → W p l e R s m args below meth c H locs cells slots Q (F0 m (pc + 3) ls rest)) : W p l e R s m args below meth c H locs cells slots Q (F0 m pc ls (.int (nZ b) :: .int (nZ a) :: rest)) :=
  lv_icmp_lt hx hb hdg ht (fun h => kt ((nZ_lt ha hb2).mp h)) (fun h => kf (fun q => h ((nZ_lt ha hb2).mpr q)))
theorem z_icmp_ge (hx : p.tables.exec = Jvm.exec) (hb : c.code = cc) {a b : Int} (ha : zR a) (hb2 : zR b) {off : Int} {tgt : Nat} (hdg : decode cc pc = .ok (.if_icmp .ge off, 3)) (ht : (pc : Int) + off = (tgt : Int))
    (kt : b ≤ a → W p l e R s m args below meth c H locs cells slots Q (F0 m tgt ls rest)) (kf : ¬ b ≤ a → W p l e R s m args below meth c H locs cells slots Q (F0 m (pc + 3) ls rest)) : W p l e R s m args below meth c H locs cells slots Q (F0 m pc ls (.int (nZ b) :: .int (nZ a) :: rest)) :=
  lv_icmp_ge hx hb hdg ht (fun h => kt ((nZ_le hb2 ha).mp h)) (fun h => kf (fun q => h ((nZ_le hb2 ha).mpr q)))
theorem z_icmp_gt (hx : p.tables.exec = Jvm.exec) (hb : c.code = cc) {a b : Int} (ha : zR a) (hb2 : zR b) {off : Int} {tgt : Nat} (hdg : decode cc pc = .ok (.if_icmp .gt off, 3)) (ht : (pc : Int) + off = (tgt : Int))
    (kt : b < a → W p l e R s m args below meth c H locs cells slots Q (F0 m tgt ls rest)) (kf : ¬ b < a → W p l e R s m args below meth c H locs cells slots Q (F0 m (pc + 3) ls rest)) : W p l e R s m args below meth c H locs cells slots Q (F0 m pc ls (.int (nZ b) :: .int (nZ a) :: rest)) :=
  lv_icmp_gt hx hb hdg ht (fun h => kt ((nZ_lt hb2 ha).mp h)) (fun h => kf (fun q => h ((nZ_lt hb2 ha).mpr q)))
theorem z_icmp_le (hx : p.tables.exec = Jvm.exec) (hb : c.code = cc) {a b : Int} (ha : zR a) (hb2 : zR b) {off : Int} {tgt : Nat} (hdg : decode cc pc = .ok (.if_icmp .le off, 3)) (ht : (pc : Int) + off = (tgt : Int))
    (kt : a ≤ b → W p l e R s m args below meth c H locs cells slots Q (F0 m tgt ls rest)) (kf : ¬ a ≤ b → W p l e R s m args below meth c H locs cells slots Q (F0 m (pc + 3) ls rest)) : W p l e R s m args below meth c H locs cells slots Q (F0 m pc ls (.int (nZ b) :: .int (nZ a) :: rest)) :=
  lv_icmp_le hx hb hdg ht (fun h => kt ((nZ_le ha hb2).mp h)) (fun h => kf (fun q => h ((nZ_le ha hb2).mpr q)))
end ZB
/-! a part of a world: the cells 'is' of it, under a shape of its own -/
def zix : List Nat → Nat → Option Nat
  | [], _ => none
  | a :: l, k => if k = a then some 0 else (zix l k).map (· + 1)
def zpk (is : List Nat) (M : zM) : zM := fun j => M (is.getD j 0)
def zpt (is : List Nat) (M M1 : zM) : zM := fun k => match zix is k with
  | some j => M1 j
  | none => M k
def zsb (is : List Nat) (α : Nat → Nat) : Nat → Nat := fun j => α (is.getD j 0)
def zdm (is : List Nat) (d : zD) : zD := match d with
  | (0, ci, fs) => (0, ci, fs.map (fun c => match c with
    | 0 => 0
    | 1 => 1
    | t + 2 => is.getD t 0 + 2))
  | (1, n, l) => (1, n, l)
  | (2, n, l) => (2, n, l)
  | (a + 3, q, ts) => (a + 3, q, ts.map (fun t => is.getD t 0))
def zemb (L Ll : List zD) (is : List Nat) : Bool := decide (is.length = Ll.length) && va_nd is && (List.range Ll.length).all (fun j => decide (L[is.getD j 0]? = (Ll[j]?).map (zdm is)))
theorem zix_some : ∀ {is : List Nat} {k j : Nat}, zix is k = some j → is[j]? = some k
  | [], k, j, h => by cases h
  | a :: l, k, j, h => by
    unfold zix at h
    by_cases hk : k = a
    · rw [if_pos hk] at h
      cases h
      rw [hk]
      rfl
    · rw [if_neg hk] at h
      cases hz : zix l k with
      | none => rw [hz] at h; cases h
      | some j0 =>
        rw [hz] at h
        cases h
        show (a :: l)[j0 + 1]? = some k
        rw [List.getElem?_cons_succ]
        exact zix_some hz
theorem zix_none : ∀ {is : List Nat} {k : Nat}, zix is k = none → k ∉ is
  | [], k, h => List.not_mem_nil
  | a :: l, k, h => by
    unfold zix at h
    by_cases hk : k = a
    · rw [if_pos hk] at h; cases h
    · rw [if_neg hk] at h
      cases hz : zix l k with
      | none => exact fun q => (List.mem_cons.mp q).elim hk (zix_none hz)
      | some j0 => rw [hz] at h; cases h
theorem zix_of : ∀ {is : List Nat} {j k : Nat}, va_nd is = true → is[j]? = some k → zix is k = some j := by
  intro is j k hn hj
  cases hz : zix is k with
  | none => exact absurd (List.mem_of_getElem? hj) (zix_none hz)
  | some j0 => rw [va_nd_inj is hn j0 j k (zix_some hz) hj]
theorem zfs_map (is : List Nat) (α : Nat → Nat) (f : Nat → Int) : ∀ (fs : List Nat) (o : Nat), zfs (zsb is α) f o fs = zfs α f o (fs.map (fun c => match c with
    | 0 => 0
    | 1 => 1
    | t + 2 => is.getD t 0 + 2))
  | [], o => rfl
  | c :: l, o => by
    show zfv (zsb is α) (f o) c :: zfs (zsb is α) f (o + 1) l = zfv α (f o) _ :: zfs α f (o + 1) (l.map _)
    rw [zfs_map is α f l (o + 1)]
    congr 1
    match c with
    | 0 => rfl
    | 1 => rfl
    | t + 2 => rfl
theorem zce_map (cs : Nat → ClassId) (is : List Nat) (α : Nat → Nat) (f : Nat → Int) : ∀ d : zD, zce cs (zsb is α) f d = zce cs α f (zdm is d)
  | (0, ci, fs) => by
    show (.inr (ci, zfs (zsb is α) f 0 fs) : va_E) = .inr (ci, zfs α f 0 _)
    rw [zfs_map]
  | (1, n, l) => rfl
  | (2, n, l) => rfl
  | (a + 3, q, ts) => by
    show (.inl (cs q, ts.length, .inr (.inr (.inr (.inr (fun i => (ts[i]?).map (zsb is α)))))) : va_E) = .inl (cs q, (ts.map (fun t => is.getD t 0)).length, .inr (.inr (.inr (.inr (fun i => ((ts.map (fun t => is.getD t 0))[i]?).map α)))))
    rw [List.length_map]
    have : (fun (i : Nat) => (ts[i]?).map (zsb is α)) = fun (i : Nat) => ((ts.map (fun t => is.getD t 0))[i]?).map α := by
      funext i
      rw [List.getElem?_map, Option.map_map]
      rfl
    rw [this]
theorem zemb_e {L Ll : List zD} {is : List Nat} (h : zemb L Ll is = true) : is.length = Ll.length ∧ va_nd is = true ∧ ∀ (j : Nat) (d : zD), Ll[j]? = some d → ∃ k, is[j]? = some k ∧ is.getD j 0 = k ∧ L[k]? = some (zdm is d) := by
  unfold zemb at h
  rw [Bool.and_eq_true, Bool.and_eq_true] at h
  obtain ⟨⟨h1, h2⟩, h3⟩ := h
  have h1 := of_decide_eq_true h1
  refine ⟨h1, h2, fun j d hd => ?_⟩
  have hl := (List.getElem?_eq_some_iff.mp hd).1
  have h4 := of_decide_eq_true (List.all_eq_true.mp h3 j (List.mem_range.mpr hl))
  rw [hd] at h4
  obtain ⟨k, hk⟩ : ∃ k, is[j]? = some k := ⟨_, List.getElem?_eq_getElem (by omega)⟩
  have hg : is.getD j 0 = k := by rw [List.getD_eq_getElem?_getD, hk, Option.getD_some]
  rw [hg] at h4
  exact ⟨k, hk, hg, h4⟩
theorem zemb_P {cs : Nat → ClassId} {D : va_G} {L Ll : List zD} {is : List Nat} {α : Nat → Nat} {M : zM} {H : Heap} (h : zemb L Ll is = true) (hP : va_P D vwCl (zw cs L α M) H) : va_P D vwCl (zw cs Ll (zsb is α) (zpk is M)) H := by
  obtain ⟨h1, h2, h3⟩ := zemb_e h
  intro j q hq
  obtain ⟨d, hd, rfl⟩ := zw_of hq
  obtain ⟨k, hk, hg, hL⟩ := h3 j d hd
  have := hP k _ (zw_at hL)
  rw [zce_map]
  show va_at D vwCl (α (is.getD j 0), zce cs α (M (is.getD j 0)) (zdm is d)) H
  rw [hg]
  exact this
theorem zemb_D {cs : Nat → ClassId} {L Ll : List zD} {is : List Nat} {α : Nat → Nat} {M M2 : zM} {A : Nat → Prop} (h : zemb L Ll is = true) (hD : va_D A (zw cs L α M)) : va_D (fun _ => True) (zw cs Ll (zsb is α) M2) := by
  obtain ⟨h1, h2, h3⟩ := zemb_e h
  refine ⟨fun i j x y hi hj hxy => ?_, fun _ _ _ => trivial⟩
  obtain ⟨d, hd, rfl⟩ := zw_of hi
  obtain ⟨d', hd', rfl⟩ := zw_of hj
  obtain ⟨k, hk, hg, hL⟩ := h3 i d hd
  obtain ⟨k', hk', hg', hL'⟩ := h3 j d' hd'
  have e : α k = α k' := by
    have hxy : α (is.getD i 0) = α (is.getD j 0) := hxy
    rw [hg, hg'] at hxy
    exact hxy
  have := hD.1 k k' _ _ (zw_at hL) (zw_at hL') e
  subst this
  exact va_nd_inj is h2 i j k hk hk'
theorem zemb_A {cs : Nat → ClassId} {L Ll : List zD} {is : List Nat} {α : Nat → Nat} {M : zM} {A : Nat → Prop} (h : zemb L Ll is = true) (hD : va_D A (zw cs L α M)) : ∀ q, zA Ll.length (zsb is α) q → A q := by
  obtain ⟨h1, h2, h3⟩ := zemb_e h
  rintro q ⟨j, hj, rfl⟩
  obtain ⟨d, hd⟩ : ∃ d, Ll[j]? = some d := ⟨_, List.getElem?_eq_getElem hj⟩
  obtain ⟨k, hk, hg, hL⟩ := h3 j d hd
  show A (α (is.getD j 0))
  rw [hg]
  exact hD.2 k _ (zw_at hL)
theorem zemb_back {cs : Nat → ClassId} {D : va_G} {L Ll : List zD} {is : List Nat} {α : Nat → Nat} {M M1 : zM} {H H1 : Heap} {A : Nat → Prop} (h : zemb L Ll is = true) (hP : va_P D vwCl (zw cs L α M) H) (hD : va_D A (zw cs L α M))
    (hP1 : va_P D vwCl (zw cs Ll (zsb is α) M1) H1) (hk : ∀ q : Nat, q < H.size → ¬ zA Ll.length (zsb is α) q → H1[q]? = H[q]?) : va_P D vwCl (zw cs L α (zpt is M M1)) H1 := by
  obtain ⟨h1, h2, h3⟩ := zemb_e h
  intro k q hq
  obtain ⟨d, hd, rfl⟩ := zw_of hq
  have h0 := hP k _ (zw_at hd)
  cases hz : zix is k with
  | some j =>
    have hj := zix_some hz
    have hjl : j < Ll.length := by have := (List.getElem?_eq_some_iff.mp hj).1; omega
    obtain ⟨d1, hd1⟩ : ∃ d1, Ll[j]? = some d1 := ⟨_, List.getElem?_eq_getElem hjl⟩
    obtain ⟨k', hk', hg, hL⟩ := h3 j d1 hd1
    rw [hj] at hk'
    cases hk'
    rw [hd] at hL
    cases hL
    have := hP1 j _ (zw_at hd1)
    rw [zce_map] at this
    have e : zpt is M M1 k = M1 j := by unfold zpt; rw [hz]
    rw [e]
    have ea : zsb is α j = α k := by show α (is.getD j 0) = α k; rw [hg]
    rw [ea] at this
    exact this
  | none =>
    have e : zpt is M M1 k = M k := by unfold zpt; rw [hz]
    rw [e]
    refine h0.kept (hk _ h0.lt ?_)
    rintro ⟨j, hj, he⟩
    obtain ⟨d1, hd1⟩ : ∃ d1, Ll[j]? = some d1 := ⟨_, List.getElem?_eq_getElem hj⟩
    obtain ⟨k', hk', hg, hL⟩ := h3 j d1 hd1
    have he : α k = α (is.getD j 0) := he
    rw [hg] at he
    have := hD.1 k k' _ _ (zw_at hd) (zw_at hL) he
    subst this
    exact zix_none hz (List.mem_of_getElem? hk')
theorem zD_self {cs : Nat → ClassId} {L : List zD} {α : Nat → Nat} {M : zM} {A : Nat → Prop} (hD : va_D A (zw cs L α M)) : va_D (zA L.length α) (zw cs L α M) := ⟨hD.1, fun k q hq => by
  obtain ⟨d, hd, rfl⟩ := zw_of hq
  exact ⟨k, (List.getElem?_eq_some_iff.mp hd).1, rfl⟩⟩
/-! the contracts' form: a method that makes nothing -/
def zPre (D : va_G) (cs : Nat → ClassId) (L : List zD) (α : Nat → Nat) (M : zM) (av : List Value) : Array Value → State → Prop := va_Pc av (fun U => va_P D vwCl (zw cs L α M) U.heap ∧ va_K D vwCl (zt cs) U ∧ va_D (fun _ => True) (zw cs L α M))
def zQi (D : va_G) (cs : Nat → ClassId) (L : List zD) (α : Nat → Nat) (r : Int) (M : zM) : Array Value → State → Outcome → State → Prop := va_Qi (S := Unit) (fun x _ => x = nZ r) (fun _ t => va_P D vwCl (zw cs L α M) t.heap) (zA L.length α)
def zQl (D : va_G) (cs : Nat → ClassId) (L : List zD) (α : Nat → Nat) (r : Int) (M : zM) : Array Value → State → Outcome → State → Prop := va_Ql (S := Unit) (fun x _ => x = nY r) (fun _ t => va_P D vwCl (zw cs L α M) t.heap) (zA L.length α)
def zQv (D : va_G) (cs : Nat → ClassId) (L : List zD) (α : Nat → Nat) (M : zM) : Array Value → State → Outcome → State → Prop := va_Qv (S := Unit) (fun _ => True) (fun _ t => va_P D vwCl (zw cs L α M) t.heap) (zA L.length α)
theorem zPre_blind {D : va_G} {cs : Nat → ClassId} {L : List zD} {α : Nat → Nat} {M : zM} {av : List Value} : FrameBlind (zPre D cs L α M av) := fun a U g mk q => by
  obtain ⟨q0, qP, qK, qD⟩ := q
  exact ⟨q0, qP, va_K.moved (u := U) (U := U.calling g mk a) (Vm.Alike.refl U.vm) qK, qD⟩
section ZCALL
variable {p : Program} {l : Launch} {e : Env} {R : Room} {s : State} {m : MethodId} {args : Array Value} {below : List Frame} {meth : Method} {c : Code} {H : Heap} {locs : List Loc} {cells slots : Nat} {Q : State → Prop}
variable {cc : ByteArray} {pc nL : Nat} {ls : Array Slot} {rest st : List Value} {D : va_G} {cs : Nat → ClassId} {own : String} {Ts : List Cond} {L Ll : List zD} {α : Nat → Nat} {M M1 : zM} {A : Nat → Prop} {is : List Nat}
variable {y : MethodName} {bytes : ByteArray} {maxL index nn : Nat} {ret : Option FieldType} {ws : List Cond} {rm : Room} {As : List Value} {C : String}
theorem z_preV (hX : zX p s m args c cc nL D cs own Ts) (hH : zH D cs L α M A s H locs) (hem : zemb L Ll is = true) {k ci : Nat} {fs : List Nat} {T : u_T} {N : Nat} (hd : L[k]? = some (0, ci, fs)) (hc : vwCl[ci]? = some (C, T, N)) : PreV s H C (α k) (zPre D cs Ll (zsb is α) (zpk is M) (.ref (α k) :: As)) As :=
  ⟨zPre_blind, va_recv (q := (C, T, N)) hX.2 hH.1 hc (zw_at hd), fun U hU hW => ⟨rfl, by rw [hU]; exact zemb_P hem hH.1, va_K.moved hW.alike hX.2, zemb_D hem hH.2.1⟩⟩
theorem z_preS (hX : zX p s m args c cc nL D cs own Ts) (hH : zH D cs L α M A s H locs) (hem : zemb L Ll is = true) : PreS s H (zPre D cs Ll (zsb is α) (zpk is M) As) As :=
  ⟨zPre_blind, fun U hU hW => ⟨rfl, by rw [hU]; exact zemb_P hem hH.1, va_K.moved hW.alike hX.2, zemb_D hem hH.2.1⟩⟩
theorem z_callVi {r : Int} (hX : zX p s m args c cc nL D cs own Ts) (hH : zH D cs L α M A s H locs) (k ci : Nat) {fs : List Nat} {T : u_T} {N : Nat} (hem : zemb L Ll is = true) (hM : Met l y ws rm (zPre D cs Ll (zsb is α) (zpk is M) (.ref (α k) :: As)) (zQi D cs Ll (zsb is α) r M1) 0 0 (zA Ll.length (zsb is α)))
    (cw : CallW R s args own C index y bytes maxL ret ws rm 0 0 nn) (hd : L[k]? = some (0, ci, fs)) (hc : vwCl[ci]? = some (C, T, N)) (hn : As.length = nn) (hls : ls.size = nL) (hW : (rest.map fun v => v.category).sum ≤ 8) (hst : st = As.reverse ++ .ref (α k) :: rest) (hdg : decode cc pc = .ok (.invokevirtual index, 3)) (hf : cells ≤ R.cells ∧ slots ≤ R.slots)
    (kk : ∀ (H1 : Heap) (locs1 : List Loc), zH D cs L α (zpt is M M1) A s H1 locs1 → W p l e R s m args below meth c H1 locs1 cells slots Q (F0 m (pc + 3) ls (.int (nZ r) :: rest))) : W p l e R s m args below meth c H locs cells slots Q (F0 m pc ls st) := by
  refine va_calli (va_runV (As := As) (rest := rest) hX.1 hM cw (z_preV hX hH hem hd hc) rfl hn hls hst (lv_room hW) hdg hf) hH.2.2 (fun q _ h => zemb_A hem hH.2.1 q h) (zemb_A hem hH.2.1) (fun x u t H1 locs1 ht hvm hp hB hz hk hS => ?_)
  subst hp
  rw [ht] at hB
  exact kk H1 locs1 ⟨zemb_back hem hH.1 hH.2.1 hB hk, zH_same hH.2.1, hS⟩
theorem z_callVl {r : Int} (hX : zX p s m args c cc nL D cs own Ts) (hH : zH D cs L α M A s H locs) (k ci : Nat) {fs : List Nat} {T : u_T} {N : Nat} (hem : zemb L Ll is = true) (hM : Met l y ws rm (zPre D cs Ll (zsb is α) (zpk is M) (.ref (α k) :: As)) (zQl D cs Ll (zsb is α) r M1) 0 0 (zA Ll.length (zsb is α)))
    (cw : CallW R s args own C index y bytes maxL ret ws rm 0 0 nn) (hd : L[k]? = some (0, ci, fs)) (hc : vwCl[ci]? = some (C, T, N)) (hn : As.length = nn) (hls : ls.size = nL) (hW : (rest.map fun v => v.category).sum ≤ 8) (hst : st = As.reverse ++ .ref (α k) :: rest) (hdg : decode cc pc = .ok (.invokevirtual index, 3)) (hf : cells ≤ R.cells ∧ slots ≤ R.slots)
    (kk : ∀ (H1 : Heap) (locs1 : List Loc), zH D cs L α (zpt is M M1) A s H1 locs1 → W p l e R s m args below meth c H1 locs1 cells slots Q (F0 m (pc + 3) ls (.long (nY r) :: rest))) : W p l e R s m args below meth c H locs cells slots Q (F0 m pc ls st) := by
  refine va_calll (va_runV (As := As) (rest := rest) hX.1 hM cw (z_preV hX hH hem hd hc) rfl hn hls hst (lv_room hW) hdg hf) hH.2.2 (fun q _ h => zemb_A hem hH.2.1 q h) (zemb_A hem hH.2.1) (fun x u t H1 locs1 ht hvm hp hB hz hk hS => ?_)
  subst hp
  rw [ht] at hB
  exact kk H1 locs1 ⟨zemb_back hem hH.1 hH.2.1 hB hk, zH_same hH.2.1, hS⟩
theorem z_callVv (hX : zX p s m args c cc nL D cs own Ts) (hH : zH D cs L α M A s H locs) (k ci : Nat) {fs : List Nat} {T : u_T} {N : Nat} (hem : zemb L Ll is = true) (hM : Met l y ws rm (zPre D cs Ll (zsb is α) (zpk is M) (.ref (α k) :: As)) (zQv D cs Ll (zsb is α) M1) 0 0 (zA Ll.length (zsb is α)))
    (cw : CallW R s args own C index y bytes maxL ret ws rm 0 0 nn) (hd : L[k]? = some (0, ci, fs)) (hc : vwCl[ci]? = some (C, T, N)) (hn : As.length = nn) (hls : ls.size = nL) (hW : (rest.map fun v => v.category).sum ≤ 8) (hst : st = As.reverse ++ .ref (α k) :: rest) (hdg : decode cc pc = .ok (.invokevirtual index, 3)) (hf : cells ≤ R.cells ∧ slots ≤ R.slots)
    (kk : ∀ (H1 : Heap) (locs1 : List Loc), zH D cs L α (zpt is M M1) A s H1 locs1 → W p l e R s m args below meth c H1 locs1 cells slots Q (F0 m (pc + 3) ls rest)) : W p l e R s m args below meth c H locs cells slots Q (F0 m pc ls st) := by
  refine va_callv (va_runV (As := As) (rest := rest) hX.1 hM cw (z_preV hX hH hem hd hc) rfl hn hls hst (lv_room hW) hdg hf) hH.2.2 (fun q _ h => zemb_A hem hH.2.1 q h) (zemb_A hem hH.2.1) (fun u t H1 locs1 ht hvm hp hB hz hk hS => ?_)
  rw [ht] at hB
  exact kk H1 locs1 ⟨zemb_back hem hH.1 hH.2.1 hB hk, zH_same hH.2.1, hS⟩
theorem z_callSi {r : Int} (hX : zX p s m args c cc nL D cs own Ts) (hH : zH D cs L α M A s H locs) (hem : zemb L Ll is = true) (hM : Met l y ws rm (zPre D cs Ll (zsb is α) (zpk is M) As) (zQi D cs Ll (zsb is α) r M1) 0 0 (zA Ll.length (zsb is α)))
    (cw : CallB R s args own index y bytes maxL ret ws rm 0 0 nn ∧ (Cond.static y).before args s = true) (hn : As.length = nn) (hls : ls.size = nL) (hW : (rest.map fun v => v.category).sum ≤ 8) (hst : st = As.reverse ++ rest) (hdg : decode cc pc = .ok (.invokestatic index, 3)) (hf : cells ≤ R.cells ∧ slots ≤ R.slots)
    (kk : ∀ (H1 : Heap) (locs1 : List Loc), zH D cs L α (zpt is M M1) A s H1 locs1 → W p l e R s m args below meth c H1 locs1 cells slots Q (F0 m (pc + 3) ls (.int (nZ r) :: rest))) : W p l e R s m args below meth c H locs cells slots Q (F0 m pc ls st) := by
  refine va_calli (va_runS (As := As) (rest := rest) hX.1 hM cw (z_preS hX hH hem) rfl hn hls hst (lv_room hW) hdg hf) hH.2.2 (fun q _ h => zemb_A hem hH.2.1 q h) (zemb_A hem hH.2.1) (fun x u t H1 locs1 ht hvm hp hB hz hk hS => ?_)
  subst hp
  rw [ht] at hB
  exact kk H1 locs1 ⟨zemb_back hem hH.1 hH.2.1 hB hk, zH_same hH.2.1, hS⟩
theorem z_callSl {r : Int} (hX : zX p s m args c cc nL D cs own Ts) (hH : zH D cs L α M A s H locs) (hem : zemb L Ll is = true) (hM : Met l y ws rm (zPre D cs Ll (zsb is α) (zpk is M) As) (zQl D cs Ll (zsb is α) r M1) 0 0 (zA Ll.length (zsb is α)))
    (cw : CallB R s args own index y bytes maxL ret ws rm 0 0 nn ∧ (Cond.static y).before args s = true) (hn : As.length = nn) (hls : ls.size = nL) (hW : (rest.map fun v => v.category).sum ≤ 8) (hst : st = As.reverse ++ rest) (hdg : decode cc pc = .ok (.invokestatic index, 3)) (hf : cells ≤ R.cells ∧ slots ≤ R.slots)
    (kk : ∀ (H1 : Heap) (locs1 : List Loc), zH D cs L α (zpt is M M1) A s H1 locs1 → W p l e R s m args below meth c H1 locs1 cells slots Q (F0 m (pc + 3) ls (.long (nY r) :: rest))) : W p l e R s m args below meth c H locs cells slots Q (F0 m pc ls st) := by
  refine va_calll (va_runS (As := As) (rest := rest) hX.1 hM cw (z_preS hX hH hem) rfl hn hls hst (lv_room hW) hdg hf) hH.2.2 (fun q _ h => zemb_A hem hH.2.1 q h) (zemb_A hem hH.2.1) (fun x u t H1 locs1 ht hvm hp hB hz hk hS => ?_)
  subst hp
  rw [ht] at hB
  exact kk H1 locs1 ⟨zemb_back hem hH.1 hH.2.1 hB hk, zH_same hH.2.1, hS⟩
theorem z_callSv (hX : zX p s m args c cc nL D cs own Ts) (hH : zH D cs L α M A s H locs) (hem : zemb L Ll is = true) (hM : Met l y ws rm (zPre D cs Ll (zsb is α) (zpk is M) As) (zQv D cs Ll (zsb is α) M1) 0 0 (zA Ll.length (zsb is α)))
    (cw : CallB R s args own index y bytes maxL ret ws rm 0 0 nn ∧ (Cond.static y).before args s = true) (hn : As.length = nn) (hls : ls.size = nL) (hW : (rest.map fun v => v.category).sum ≤ 8) (hst : st = As.reverse ++ rest) (hdg : decode cc pc = .ok (.invokestatic index, 3)) (hf : cells ≤ R.cells ∧ slots ≤ R.slots)
    (kk : ∀ (H1 : Heap) (locs1 : List Loc), zH D cs L α (zpt is M M1) A s H1 locs1 → W p l e R s m args below meth c H1 locs1 cells slots Q (F0 m (pc + 3) ls rest)) : W p l e R s m args below meth c H locs cells slots Q (F0 m pc ls st) := by
  refine va_callv (va_runS (As := As) (rest := rest) hX.1 hM cw (z_preS hX hH hem) rfl hn hls hst (lv_room hW) hdg hf) hH.2.2 (fun q _ h => zemb_A hem hH.2.1 q h) (zemb_A hem hH.2.1) (fun u t H1 locs1 ht hvm hp hB hz hk hS => ?_)
  rw [ht] at hB
  exact kk H1 locs1 ⟨zemb_back hem hH.1 hH.2.1 hB hk, zH_same hH.2.1, hS⟩
/-! ends -/
theorem z_iret {r v : Int} {M' : zM} {ty : FieldType} (hX : zX p s m args c cc nL D cs own Ts) (hr : meth.sig.returnType = some ty) (hlocks : meth.locks = false) (hH : zH D cs L α M (zA L.length α) s H locs) (hF : some (v, M) = some (r, M')) (hn : narrow ty (.int (nZ v)) = .int (nZ v)) (hdg : decode cc pc = .ok (.ireturn, 1)) : W p l e R s m args below meth c H locs cells slots (MQ below (zQi D cs L α r M') args s cells slots (zA L.length α)) (F0 m pc ls [.int (nZ v)]) := by
  cases hF
  exact W.zret hX.1.1 hX.1.2.1 hr hn (fun t ht hW => ⟨⟨nZ r, (), rfl, rfl, by show va_P D vwCl (zw cs L α M) t.heap; rw [ht]; exact hH.1⟩, hH.2.2.F ht⟩) hH.2.2.2.2 hdg hlocks
theorem z_lret {r v : Int} {M' : zM} (hX : zX p s m args c cc nL D cs own Ts) (hr : meth.sig.returnType = some .long) (hlocks : meth.locks = false) (hH : zH D cs L α M (zA L.length α) s H locs) (hF : some (v, M) = some (r, M')) (hdg : decode cc pc = .ok (.lreturn, 1)) : W p l e R s m args below meth c H locs cells slots (MQ below (zQl D cs L α r M') args s cells slots (zA L.length α)) (F0 m pc ls [.long (nY v)]) := by
  cases hF
  exact W.lret hX.1.1 hX.1.2.1 hr (fun t ht hW => ⟨⟨nY r, (), rfl, rfl, by show va_P D vwCl (zw cs L α M) t.heap; rw [ht]; exact hH.1⟩, hH.2.2.F ht⟩) hH.2.2.2.2 hdg hlocks
theorem z_vret {M' : zM} (hX : zX p s m args c cc nL D cs own Ts) (hr : meth.sig.returnType = none) (hlocks : meth.locks = false) (hH : zH D cs L α M (zA L.length α) s H locs) (hF : some M = some M') (hdg : decode cc pc = .ok (.return_, 1)) : W p l e R s m args below meth c H locs cells slots (MQ below (zQv D cs L α M') args s cells slots (zA L.length α)) (F0 m pc ls []) := by
  cases hF
  exact W.vret hX.1.1 hX.1.2.1 hr (fun t ht hW => ⟨⟨(), rfl, trivial, by show va_P D vwCl (zw cs L α M) t.heap; rw [ht]; exact hH.1⟩, hH.2.2.F ht⟩) hH.2.2.2.2 hdg hlocks
end ZCALL
