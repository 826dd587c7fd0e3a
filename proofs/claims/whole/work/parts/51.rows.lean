/-! rows over worlds under construction -/
def zHv (D : va_G) (cs : Nat → ClassId) (L : List zD) (α : Nat → Nat) (M : zM) (A : Nat → Prop) (s : State) (H : Heap) (locs : List Loc) : Prop :=
  va_P D vwCl (zv cs L α M) H ∧ va_D A (zv cs L α M) ∧ va_S A s.heap H locs
theorem zv_set {cs : Nat → ClassId} {L : List zD} {α : Nat → Nat} {M M' : zM} {k : Nat} {d d' : zD} {e : va_E} (h : L[k]? = some d) (hM : ∀ k', k' ≠ k → M' k' = M k') (he : e = zce' cs α (M' k) d') : (zv cs L α M).set k (α k, e) = zv cs (L.set k d') α M' := by
  subst he
  have hl := (List.getElem?_eq_some_iff.mp h).1
  apply List.ext_getElem?
  intro j
  by_cases hj : j = k
  · subst hj
    rw [List.getElem?_set_self (by rw [zv_len]; exact hl), zv_at (d := d') (by rw [List.getElem?_set_self hl])]
  · rw [List.getElem?_set_ne (Ne.symm hj)]
    by_cases hjl : j < L.length
    · obtain ⟨e', hd'⟩ : ∃ d', L[j]? = some d' := ⟨_, List.getElem?_eq_getElem hjl⟩
      rw [zv_at hd', zv_at (d := e') (by rw [List.getElem?_set_ne (Ne.symm hj)]; exact hd'), hM j hj]
    · rw [List.getElem?_eq_none (by rw [zv_len]; omega), List.getElem?_eq_none (by rw [zv_len, List.length_set]; omega)]
theorem zHv_D {A : Nat → Prop} {cs : Nat → ClassId} {L L' : List zD} {α : Nat → Nat} {M M' : zM} (hl : L'.length = L.length) (h : va_D A (zv cs L α M)) : va_D A (zv cs L' α M') := by
  have key : ∀ (k : Nat) (q : Nat × va_E), (zv cs L' α M')[k]? = some q → ∃ q0, (zv cs L α M)[k]? = some q0 ∧ q0.1 = q.1 := by
    intro k q hq
    have hk : k < L.length := by
      have := (List.getElem?_eq_some_iff.mp hq).1
      rw [zv_len] at this
      omega
    obtain ⟨d, hd, rfl⟩ := zv_of hq
    exact ⟨_, zv_at (List.getElem?_eq_getElem hk), rfl⟩
  refine ⟨fun i j x y hi hj hxy => ?_, fun k q hk => ?_⟩
  · obtain ⟨x0, h1, h2⟩ := key i x hi
    obtain ⟨y0, h3, h4⟩ := key j y hj
    exact h.1 i j x0 y0 h1 h3 (by rw [h2, h4, hxy])
  · obtain ⟨q0, h1, h2⟩ := key k q hk
    rw [← h2]
    exact h.2 k q0 h1
section YR
variable {p : Program} {l : Launch} {e : Env} {R : Room} {s : State} {m : MethodId} {args : Array Value} {below : List Frame} {meth : Method} {c : Code} {H : Heap} {locs : List Loc} {cells slots : Nat} {Q : State → Prop}
variable {cc : ByteArray} {pc nL : Nat} {ls : Array Slot} {rest : List Value} {D : va_G} {cs : Nat → ClassId} {own : String} {Ts : List Cond} {L : List zD} {α : Nat → Nat} {M : zM} {A : Nat → Prop}
/-- a new object -/
theorem y_new (hX : zX p s m args c cc nL D cs own Ts) (hH : zHv D cs L α M A s H locs) (hL : zrs L = true) (hA : ∀ q, s.heap.size ≤ q → A q) {ci index N : Nat} {C : String} {T : u_T} {fs : List Nat} (hc : vwCl[ci]? = some (C, T, N)) (ty : Nat → FieldType) (hty : ∀ k, k < N → parseFieldDescriptor (T k).2.2.1 = some (ty k)) (hin : ∀ w ∈ u_ws C T N, w ∈ Ts) (hcl : Cond.classLink own index C ∈ Ts) (hinst : Cond.instantiable C N ∈ Ts) (hini : Cond.initialized C ∈ Ts)
    (hz : M L.length = fun _ => 0) (hr : fs.all (fun c => decide (c < 2)) = true) (hfs : ∀ j, j < N → defaultValue (ty j) = vp_V (zfs (fun _ => 0) (fun _ => 0) 0 fs) j) (hcells : cells + 1 ≤ R.cells) (hslots : slots + N ≤ R.slots) (hdg : decode cc pc = .ok (.new index, 3))
    (kk : ∀ (q : Nat) (H1 : Heap), zHv D cs (L ++ [(0, ci, fs)]) (zal α L.length q) M A s H1 locs → W p l e R s m args below meth c H1 locs (cells + 1) (slots + N) Q (F0 m (pc + 3) ls (.ref q :: rest))) : W p l e R s m args below meth c H locs cells slots Q (F0 m pc ls rest) := by
  obtain ⟨⟨hx, hb, hml, hown, hts⟩, hK⟩ := hX
  have hrr : ∀ c, c ∈ fs → c < 0 + 2 := fun c hc => by simpa using List.all_eq_true.mp hr c hc
  have e1 : zfs (fun _ => 0) (fun _ => 0) 0 fs = zfs α (M L.length) 0 fs := by
    rw [hz]
    exact zfs_al (n := 0) (fun t ht => by omega) fs 0 hrr
  refine va_new hx hb hts hin ty hty hown (hts _ hcl) (hts _ hinst) (hts _ hini) hK hH.1 hH.2.1 hH.2.2 hA hc (fs := zfs α (M L.length) 0 fs) (fun j hj => by rw [← e1]; exact hfs j hj) hcells hslots hdg (fun q H1 hP hD hS => kk q H1 ?_)
  have hpush := zv_push (cs := cs) (α := α) (M := M) (d := (0, ci, fs)) (q := q) hL (by
    show fs.all (fun c => decide (c < L.length + 2)) = true
    rw [List.all_eq_true]
    intro c hc
    have := hrr c hc
    simp
    omega)
  refine ⟨?_, ?_, hS⟩
  · rw [hpush]; exact hP
  · rw [hpush]; exact hD
/-- a new row of ints -/
theorem y_newi (hX : zX p s m args c cc nL D cs own Ts) (hH : zHv D cs L α M A s H locs) (hL : zrs L = true) (hA : ∀ q, s.heap.size ≤ q → A q) {n : Nat} {ni : Int} (hni : ni = (n : Int)) (hn : n ≤ 100000) (harr : Cond.arrayClass .int ∈ Ts) (hz : M L.length = fun _ => 0) (hcells : cells + 1 ≤ R.cells) (hslots : slots + n ≤ R.slots) (hdg : decode cc pc = .ok (.newarray .int, 2))
    (kk : ∀ (q : Nat) (H1 : Heap), zHv D cs (L ++ [(1, n, [])]) (zal α L.length q) M A s H1 locs → W p l e R s m args below meth c H1 locs (cells + 1) (slots + n) Q (F0 m (pc + 2) ls (.ref q :: rest))) : W p l e R s m args below meth c H locs cells slots Q (F0 m pc ls (.int (nZ ni) :: rest)) := by
  obtain ⟨⟨hx, hb, hml, hown, hts⟩, hK⟩ := hX
  have z : zR ni := by constructor <;> omega
  have h0 : ¬ nZ ni < 0 := fun q => by
    have := (nZ_lt (a := ni) (b := 0) z (by decide)).mp q
    omega
  have hcl : (nZ ni).toNatClampNeg = n := by
    have := nZ_toInt z
    show (nZ ni).toInt.toNat = n
    rw [this]
    omega
  refine va_newa (atype := .int) hx hb (hts _ harr) (ty := .int) rfl hK hH.1 hH.2.1 hH.2.2 hA (a0 := (n, .inl (fun _ => 0))) (N' := n) (fun cA => rfl) h0 hcl (by show n * 4 ≤ 536870912; omega) hcells hslots hdg (fun q cA H1 hK1 hP hD hS => ?_)
  have hcA : cA = cs 0 := by
    have k0 := (hK1.2 0 (cs 0, .int) rfl).2
    have k6 := (hK1.2 6 (cA, .int) rfl).2
    exact Option.some.inj (k6.symm.trans k0)
  subst hcA
  have hpush := zv_push (cs := cs) (α := α) (M := M) (d := (1, n, [])) (q := q) hL rfl
  have he : zce' cs α (M L.length) (1, n, []) = .inl (cs 0, n, .inl (fun _ => 0)) := by
    rw [hz]; rfl
  rw [he] at hpush
  refine kk q H1 ⟨?_, ?_, hS⟩
  · rw [hpush]; exact hP
  · rw [hpush]; exact hD
/-- a new row of longs -/
theorem y_newl (hX : zX p s m args c cc nL D cs own Ts) (hH : zHv D cs L α M A s H locs) (hL : zrs L = true) (hA : ∀ q, s.heap.size ≤ q → A q) {n : Nat} {ni : Int} (hni : ni = (n : Int)) (hn : n ≤ 100000) (harr : Cond.arrayClass .long ∈ Ts) (hz : M L.length = fun _ => 0) (hcells : cells + 1 ≤ R.cells) (hslots : slots + n ≤ R.slots) (hdg : decode cc pc = .ok (.newarray .long, 2))
    (kk : ∀ (q : Nat) (H1 : Heap), zHv D cs (L ++ [(2, n, [])]) (zal α L.length q) M A s H1 locs → W p l e R s m args below meth c H1 locs (cells + 1) (slots + n) Q (F0 m (pc + 2) ls (.ref q :: rest))) : W p l e R s m args below meth c H locs cells slots Q (F0 m pc ls (.int (nZ ni) :: rest)) := by
  obtain ⟨⟨hx, hb, hml, hown, hts⟩, hK⟩ := hX
  have z : zR ni := by constructor <;> omega
  have h0 : ¬ nZ ni < 0 := fun q => by
    have := (nZ_lt (a := ni) (b := 0) z (by decide)).mp q
    omega
  have hcl : (nZ ni).toNatClampNeg = n := by
    have := nZ_toInt z
    show (nZ ni).toInt.toNat = n
    rw [this]
    omega
  refine va_newa (atype := .long) hx hb (hts _ harr) (ty := .long) rfl hK hH.1 hH.2.1 hH.2.2 hA (a0 := (n, .inr (.inl (fun _ => 0)))) (N' := n) (fun cA => rfl) h0 hcl (by show n * 8 ≤ 536870912; omega) hcells hslots hdg (fun q cA H1 hK1 hP hD hS => ?_)
  have hcA : cA = cs 1 := by
    have k0 := (hK1.2 1 (cs 1, .long) rfl).2
    have k6 := (hK1.2 6 (cA, .long) rfl).2
    exact Option.some.inj (k6.symm.trans k0)
  subst hcA
  have hpush := zv_push (cs := cs) (α := α) (M := M) (d := (2, n, [])) (q := q) hL rfl
  have he : zce' cs α (M L.length) (2, n, []) = .inl (cs 1, n, .inr (.inl (fun _ => 0))) := by
    rw [hz]; rfl
  rw [he] at hpush
  refine kk q H1 ⟨?_, ?_, hS⟩
  · rw [hpush]; exact hP
  · rw [hpush]; exact hD
/-- a reference is written into a field that is not final -/
theorem y_putr (hX : zX p s m args c cc nL D cs own Ts) (hH : zHv D cs L α M A s H locs) (k j t : Nat) {index ci : Nat} {fs : List Nat} {C : String} {T : u_T} {N : Nat} (hd : L[k]? = some (0, ci, fs)) (hj : j < fs.length) (hc : vwCl[ci]? = some (C, T, N)) (ty : Nat → FieldType) (hty : ∀ k, k < N → parseFieldDescriptor (T k).2.2.1 = some (ty k)) (hnm : ∀ a, a < N → ∀ b, b < N → a ≠ b → (T a).2.1 ≠ (T b).2.1) (hin : ∀ w ∈ u_ws C T N, w ∈ Ts) (hlink : Cond.fieldLink own index C (T j).2.1 (T j).2.2.1 ∈ Ts) (hjN : j < N) (hC : (T j).1 = C) (hfin : (T j).2.2.2 = true) (hin2 : meth.name = "<init>") (hown2 : C = own)
    (href : (ty j).isReference = true) (hfit : ∀ a, narrow (ty j) (.ref a) = .ref a ∧ fits (ty j) (.ref a) = true) (hdg : decode cc pc = .ok (.putfield index, 3))
    (kk : ∀ (H1 : Heap) (locs1 : List Loc), zHv D cs (L.set k (0, ci, fs.set j (t + 2))) α M A s H1 locs1 → W p l e R s m args below meth c H1 locs1 cells slots Q (F0 m (pc + 3) ls rest)) : W p l e R s m args below meth c H locs cells slots Q (F0 m pc ls (.ref (α t) :: .ref (α k) :: rest)) := by
  obtain ⟨⟨hx, hb, hml, hown, hts⟩, hK⟩ := hX
  have hset : ∀ (fs : List Nat) (o j : Nat), j < fs.length → (zfs α (M k) o fs).set j (.ref (α t)) = zfs α (M k) o (fs.set j (t + 2)) := by
    intro fs
    induction fs with
    | nil => intro o j h; cases h
    | cons c l ih =>
      intro o j h
      cases j with
      | zero => rfl
      | succ j =>
        show zfv α (M k o) c :: (zfs α (M k) (o + 1) l).set j (.ref (α t)) = zfv α (M k o) c :: zfs α (M k) (o + 1) (l.set j (t + 2))
        rw [ih (o + 1) j (by simpa using h)]
  refine va_putF (v := .ref (α t)) (ty := ty j) hx hb hts hin ty hty hnm hown hK hH.1 hH.2.1 hH.2.2 k (fs := zfs α (M k) 0 fs) (zv_at hd) hc j hjN (hts _ hlink) (fun x h => by rw [hC] at h; exact h) hfin hin2 (hC.trans hown2) (hty j hjN) (hfit _).1 (hfit _).2 (by rw [zfs_len]; exact hj) hdg (fun H1 locs1 hP hD hS => kk H1 locs1 ⟨?_, zHv_D (by rw [List.length_set]) hH.2.1, hS⟩)
  rw [← zv_set (M' := M) (d' := (0, ci, fs.set j (t + 2))) hd (fun _ _ => rfl) rfl]
  have : (zce' cs α (M k) (0, ci, fs.set j (t + 2))) = .inr (ci, (zfs α (M k) 0 fs).set j (.ref (α t))) := by
    rw [hset fs 0 j hj]; rfl
  rw [this]
  exact hP
/-- a number is written into a field -/
theorem y_puti {M1 : zM} (hX : zX p s m args c cc nL D cs own Ts) (hH : zHv D cs L α M A s H locs) (k j : Nat) {index ci : Nat} {fs : List Nat} {ty : FieldType} {v : Int} (eM : M1 = zup M k j v) (hd : L[k]? = some (0, ci, fs)) (hf : fs[j]? = some 0) (hF : zFp own Ts index ci j ty) (hn : narrow ty (.int (nZ v)) = .int (nZ v)) (hfit : fits ty (.int (nZ v)) = true) (hdg : decode cc pc = .ok (.putfield index, 3))
    (kk : ∀ (H1 : Heap) (locs1 : List Loc), zHv D cs L α M1 A s H1 locs1 → W p l e R s m args below meth c H1 locs1 cells slots Q (F0 m (pc + 3) ls rest)) : W p l e R s m args below meth c H locs cells slots Q (F0 m pc ls (.int (nZ v) :: .ref (α k) :: rest)) := by
  subst eM
  obtain ⟨C, T, N, ty0, hc, hin, hlink, hj, hC, hty, hnm, hfin, hty1⟩ := hF
  obtain ⟨⟨hx, hb, hml, hown, hts⟩, hK⟩ := hX
  have hl := (List.getElem?_eq_some_iff.mp hf).1
  have hkl := (List.getElem?_eq_some_iff.mp hd)
  have hself : L.set k (0, ci, fs) = L := by
    apply List.ext_getElem?
    intro i
    by_cases hi : i = k
    · subst hi; rw [List.getElem?_set_self hkl.1, hd]
    · rw [List.getElem?_set_ne (Ne.symm hi)]
  have hset : (zv cs L α M).set k (α k, .inr (ci, (zfs α (M k) 0 fs).set j (.int (nZ v)))) = zv cs (L.set k (0, ci, fs)) α (zup M k j v) := zv_set hd (fun k' hk' => zup_ne hk') (by
    show _ = (.inr (ci, zfs α (zup M k j v k) 0 fs) : va_E)
    rw [zfs_set (v := v) hf (fun i => zup_self M k j v i)])
  refine va_put (v := .int (nZ v)) (ty := ty) hx hb hts hin ty0 hty hnm hown hK hH.1 hH.2.1 hH.2.2 k (fs := zfs α (M k) 0 fs) (zv_at hd) hc j hj (hts _ hlink) (fun x h => by rw [hC] at h; exact h) hfin hty1 hn hfit (by rw [zfs_len]; exact hl) hdg (fun H1 locs1 hP hD hS => kk H1 locs1 ⟨?_, zHv_D rfl hH.2.1, hS⟩)
  rw [hset, hself] at hP
  exact hP
/-- an int is written into a row -/
theorem y_iast {M1 : zM} (hX : zX p s m args c cc nL D cs own Ts) (hH : zHv D cs L α M A s H locs) (k n : Nat) {i : Int} {i0 : Nat} {v : Int} (eM : M1 = zup M k i0 v) (hd : L[k]? = some (1, n, [])) (hi : 0 ≤ i ∧ i < (n : Int)) (hn : n ≤ 2147483647) (hdg : decode cc pc = .ok (.iastore, 1))
    (kk : ∀ (H1 : Heap) (locs1 : List Loc), zHv D cs L α M1 A s H1 locs1 → W p l e R s m args below meth c H1 locs1 cells slots Q (F0 m (pc + 1) ls rest)) (hi0 : i0 = i.toNat := by rfl) : W p l e R s m args below meth c H locs cells slots Q (F0 m pc ls (.int (nZ v) :: .int (nZ i) :: .ref (α k) :: rest)) := by
  subst hi0
  subst eM
  obtain ⟨⟨hx, hb, hml, hown, hts⟩, hK⟩ := hX
  have hkl := (List.getElem?_eq_some_iff.mp hd)
  have hself : L.set k (1, n, []) = L := by
    apply List.ext_getElem?
    intro i
    by_cases hi : i = k
    · subst hi; rw [List.getElem?_set_self hkl.1, hd]
    · rw [List.getElem?_set_ne (Ne.symm hi)]
  refine va_iast (cA := cs 0) (n := n) (f := fun b => nZ (M k b)) hx hb hK hH.1 hH.2.1 hH.2.2 k 0 (zv_at hd) rfl (nZ_in hi hn) hdg (fun H1 locs1 hP hD hS => kk H1 locs1 ⟨?_, zHv_D rfl hH.2.1, hS⟩)
  rw [nZ_cl hi hn] at hP
  have hset := zv_set (cs := cs) (α := α) (M' := zup M k i.toNat v) (d' := (1, n, [])) hd (fun k' hk' => zup_ne hk') (zce_up1 cs α M k n i.toNat v [])
  rw [hself] at hset
  rw [← hset]
  exact hP
/-- a new row of references, all null -/
theorem y_newq (hX : zX p s m args c cc nL D cs own Ts) (hH : zHv D cs L α M A s H locs) (hL : zrs L = true) (hA : ∀ q, s.heap.size ≤ q → A q) {n q0 index : Nat} {C : String} {ni : Int} (hni : ni = (n : Int)) (hn : n ≤ 100000) (hq : (zt cs)[q0]? = some (cs q0, .object C)) (hover : va_AO C s) (hcl : Cond.classLink own index C ∈ Ts) (hcells : cells + 1 ≤ R.cells) (hslots : slots + n ≤ R.slots) (hdg : decode cc pc = .ok (.anewarray index, 3))
    (kk : ∀ (q : Nat) (H1 : Heap), zHv D cs (L ++ [(4, q0, List.replicate n 0)]) (zal α L.length q) M A s H1 locs → W p l e R s m args below meth c H1 locs (cells + 1) (slots + n) Q (F0 m (pc + 3) ls (.ref q :: rest))) : W p l e R s m args below meth c H locs cells slots Q (F0 m pc ls (.int (nZ ni) :: rest)) := by
  obtain ⟨⟨hx, hb, hml, hown, hts⟩, hK⟩ := hX
  have z : zR ni := by constructor <;> omega
  have h0 : ¬ nZ ni < 0 := fun q => by
    have := (nZ_lt (a := ni) (b := 0) z (by decide)).mp q
    omega
  have hcl2 : (nZ ni).toNatClampNeg = n := by
    have := nZ_toInt z
    show (nZ ni).toInt.toNat = n
    rw [this]
    omega
  refine va_newq hx hb hown (hts _ hcl) hover hK hH.1 hH.2.1 hH.2.2 hA (N' := n) h0 hcl2 (by omega) hcells hslots hdg (fun q cA H1 hK1 hP hD hS => ?_)
  have hcA : cA = cs q0 := by
    obtain ⟨_, _, _, _, _, k0⟩ := (hK.2 q0 _ hq).2
    obtain ⟨_, _, _, _, _, k6⟩ := (hK1.2 6 (cA, .object C) rfl).2
    exact Option.some.inj (k6.symm.trans k0)
  subst hcA
  have hpush := zv_push (cs := cs) (α := α) (M := M) (d := (4, q0, List.replicate n 0)) (q := q) hL (by
    show (List.replicate n 0).all (fun t => decide (t < L.length + 1)) = true
    rw [List.all_eq_true]
    intro t ht
    have := (List.mem_replicate.mp ht).2
    simp
    omega)
  have he : zce' cs α (M L.length) (4, q0, List.replicate n 0) = .inl (cs q0, n, .inr (.inr (.inr (.inr (fun _ => none))))) := by
    show (.inl (cs q0, (List.replicate n 0).length, .inr (.inr (.inr (.inr (fun i => ((List.replicate n 0)[i]?).bind (fun t => if t = 0 then none else some (α (t - 1)))))))) : va_E) = _
    rw [List.length_replicate]
    have : (fun (i : Nat) => ((List.replicate n 0)[i]?).bind (fun t => if t = 0 then none else some (α (t - 1)))) = fun _ => none := by
      funext i
      cases hi : (List.replicate n 0)[i]? with
      | none => rfl
      | some t =>
        have := (List.mem_replicate.mp (List.mem_of_getElem? hi)).2
        subst this
        rfl
    rw [this]
  rw [he] at hpush
  refine kk q H1 ⟨?_, ?_, hS⟩
  · rw [hpush]; exact hP
  · rw [hpush]; exact hD
/-- an object is put into a row of references -/
theorem y_astq (hX : zX p s m args c cc nL D cs own Ts) (hH : zHv D cs L α M A s H locs) (k t q0 ci : Nat) {C : String} {T : u_T} {N : Nat} {ts fs : List Nat} {i : Int} (hd : L[k]? = some (4, q0, ts)) (hq : (zt cs)[q0]? = some (cs q0, .object C)) (ht : L[t]? = some (0, ci, fs)) (hc : vwCl[ci]? = some (C, T, N)) (hi : 0 ≤ i ∧ i < (ts.length : Int)) (hn : ts.length ≤ 2147483647) (hdg : decode cc pc = .ok (.aastore, 1))
    (kk : ∀ (H1 : Heap) (locs1 : List Loc), zHv D cs (L.set k (4, q0, ts.set i.toNat (t + 1))) α M A s H1 locs1 → W p l e R s m args below meth c H1 locs1 cells slots Q (F0 m (pc + 1) ls rest)) : W p l e R s m args below meth c H locs cells slots Q (F0 m pc ls (.ref (α t) :: .int (nZ i) :: .ref (α k) :: rest)) := by
  obtain ⟨⟨hx, hb, hml, hown, hts⟩, hK⟩ := hX
  refine va_astq hx hb hK hH.1 hH.2.1 hH.2.2 k q0 t ci (r := (C, T, N)) (zv_at hd) hq (zv_at ht) hc (nZ_in hi hn) hdg (fun H1 locs1 hP hD hS => kk H1 locs1 ⟨?_, zHv_D (by rw [List.length_set]) hH.2.1, hS⟩)
  rw [nZ_cl hi hn] at hP
  rw [← zv_set (M' := M) (d' := (4, q0, ts.set i.toNat (t + 1))) hd (fun _ _ => rfl) rfl]
  have : zce' cs α (M k) (4, q0, ts.set i.toNat (t + 1)) = .inl (cs q0, ts.length, .inr (.inr (.inr (.inr (va_up (fun i => (ts[i]?).bind (fun t => if t = 0 then none else some (α (t - 1)))) i.toNat (some (α t))))))) := by
    show (.inl (cs q0, (ts.set i.toNat (t + 1)).length, .inr (.inr (.inr (.inr (fun j => ((ts.set i.toNat (t + 1))[j]?).bind (fun t => if t = 0 then none else some (α (t - 1)))))))) : va_E) = _
    rw [List.length_set]
    have : (fun (j : Nat) => ((ts.set i.toNat (t + 1))[j]?).bind (fun t => if t = 0 then none else some (α (t - 1)))) = va_up (fun i => (ts[i]?).bind (fun t => if t = 0 then none else some (α (t - 1)))) i.toNat (some (α t)) := by
      funext j
      unfold va_up
      by_cases hj : j = i.toNat
      · subst hj
        rw [if_pos rfl, List.getElem?_set_self (by omega)]
        rfl
      · rw [if_neg hj, List.getElem?_set_ne (Ne.symm hj)]
    rw [this]
  rw [this]
  exact hP
end YR
