/-! rows of rows, reads of references, a reference put into a field that isn't final -/
theorem y_outer (c : ClassId) (N h0 : Nat) : ∀ i : Nat, Jvm.Free.Multi.outerC c N h0 i = arrV c N (fun j => va_rf (if j < i then some (h0 + 1 + j) else none))
  | 0 => by
    show ({ cls := c, slots := Array.replicate N .null, vm := .none } : Cell) = _
    rw [arrV_new]
    refine congrArg (arrV c N) (funext fun j => ?_)
    simp [va_rf]
  | i + 1 => by
    show (Jvm.Free.Multi.outerC c N h0 i).setSlot i (.ref (h0 + 1 + i)) = _
    rw [y_outer c N h0 i, arrV_store]
    refine congrArg (arrV c N) (funext fun j => ?_)
    by_cases e : j = i
    · subst e
      simp [updV, va_rf]
    · by_cases h : j < i
      · simp [updV, e, h, Nat.lt_succ_of_lt h]
      · simp [updV, e, h, show ¬ j < i + 1 by omega]
theorem zv_congr {cs : Nat → ClassId} {L : List zD} {α : Nat → Nat} {M M' : zM} (h : ∀ k, k < L.length → M k = M' k) : zv cs L α M = zv cs L α M' := by
  apply List.ext_getElem?
  intro j
  by_cases hj : j < L.length
  · obtain ⟨d, hd⟩ : ∃ d, L[j]? = some d := ⟨_, List.getElem?_eq_getElem hj⟩
    rw [zv_at hd, zv_at hd, h j hj]
  · rw [List.getElem?_eq_none (by rw [zv_len]; omega), List.getElem?_eq_none (by rw [zv_len]; omega)]
section YM
variable {p : Program} {l : Launch} {e : Env} {R : Room} {s : State} {m : MethodId} {args : Array Value} {below : List Frame} {meth : Method} {c : Code} {H : Heap} {locs : List Loc} {cells slots : Nat} {Q : State → Prop}
variable {cc : ByteArray} {pc nL : Nat} {ls : Array Slot} {rest : List Value} {D : va_G} {cs : Nat → ClassId} {own : String} {Ts : List Cond} {L L1 : List zD} {α : Nat → Nat} {M : zM} {A : Nat → Prop}
theorem y_multi {n K q0 q1 index : Nat} {nn nk : Int} {ty : FieldType} {d : zD} {z : vp_A} (hX : zX p s m args c cc nL D cs own Ts) (hH : zHv D cs L α M A s H locs) (hL : zrs L = true) (hA : ∀ q, s.heap.size ≤ q → A q) (en : nn = (n : Int)) (ek : nk = (K : Int)) (hn : n ≤ 100000) (hk : K ≤ 100000)
    (hov : (Cond.arrayOver (.array ty)).before args s = true) (hcl : Cond.classLink own index ("[" ++ (FieldType.array ty).toString) ∈ Ts) (harr : Cond.arrayClass ty ∈ Ts) (h0 : s.vm.findClass ("[" ++ (FieldType.array ty).toString) = some (cs q0)) (h1 : s.vm.findClass (FieldType.array ty).toString = some (cs q1))
    (hbt : K * componentBytes ty ≤ 536870912) (hdf : fits ty (defaultValue ty) = true) (hdd : (defaultValue ty).isDefault = true) (hd : ∀ β : Nat → Nat, zce' cs β (fun _ => 0) d = .inl (cs q1, z)) (hz : ∀ c : ClassId, Jvm.Free.Multi.innerC c K (defaultValue ty) = vp_cell c z)
    (eL : L1 = L ++ ((3, q0, (List.range n).map (fun i => i + 1)) :: List.replicate n d).map (zshf L.length)) (hcells : cells + (1 + n) ≤ R.cells) (hslots : slots + (n + n * K) ≤ R.slots) (hdg : decode cc pc = .ok (.multianewarray index 2, 4))
    (kk : ∀ (β : Nat → Nat) (H1 : Heap), zHv D cs L1 (zca L.length α β) (zMc L.length M (fun _ _ => 0)) A s H1 locs → W p l e R s m args below meth c H1 locs (cells + 1 + n) (slots + n + n * K) Q (F0 m (pc + 4) ls (.ref (zca L.length α β L.length) :: rest))) : W p l e R s m args below meth c H locs cells slots Q (F0 m pc ls (.int (nZ nk) :: .int (nZ nn) :: rest)) := by
  subst eL
  obtain ⟨⟨hx, hb, hml, hown, hts⟩, hK⟩ := hX
  have zn : zR nn := by constructor <;> omega
  have zk : zR nk := by constructor <;> omega
  have n0 : ¬ nZ nn < 0 := fun q => by
    have := (nZ_lt (a := nn) (b := 0) zn (by decide)).mp q
    omega
  have k0 : ¬ nZ nk < 0 := fun q => by
    have := (nZ_lt (a := nk) (b := 0) zk (by decide)).mp q
    omega
  have cn : (nZ nn).toNatClampNeg = n := by
    have := nZ_toInt zn
    show (nZ nn).toInt.toNat = n
    rw [this]
    omega
  have ck : (nZ nk).toNatClampNeg = K := by
    have := nZ_toInt zk
    show (nZ nk).toInt.toNat = K
    rw [this]
    omega
  intro T hT Xs
  obtain ⟨vm₁, cA, comp, -, fA, fC, hO, -, X', step⟩ := Xs.multianewarray2F hx hown (hts _ hcl) hov (hts _ harr) (g := F0 m pc ls (.int (nZ nk) :: .int (nZ nn) :: rest)) rfl (by rw [hb]; exact hdg) rfl n0 k0 (by rw [cn]; omega) (by rw [ck]; exact hbt) (by rw [ck]; omega) hdf hdd (by rw [cn]; exact hcells) (by rw [cn, ck]; exact hslots)
  rw [cn, ck] at X'
  rw [cn, ck] at step
  have ec : cA = cs q0 := Option.some.inj (fA.symm.trans h0)
  have ec2 : comp = cs q1 := Option.some.inj (fC.symm.trans h1)
  subst ec
  subst ec2
  generalize hF : Jvm.Free.Multi.fill (T.setVm vm₁) (cs q0) (cs q1) n K (defaultValue ty) n = F at X' step
  have hTh : (T.setVm vm₁).heap = H := hT
  obtain ⟨f1, f2, -, -⟩ := Jvm.Free.Multi.fill_facts (T.setVm vm₁) (cs q0) (cs q1) n K (defaultValue ty) n
  rw [hF, hTh] at f1 f2
  have hold : ∀ x : Nat, x < H.size → F.heap[x]? = H[x]? := fun x hx => by
    have := Jvm.Free.Multi.fill_old (T.setVm vm₁) (cs q0) (cs q1) n K (defaultValue ty) (a := x) (by rw [hTh]; exact hx) n
    rw [hF, hTh] at this
    exact this
  have hrow : ∀ j : Nat, j < n → F.heap[H.size + 1 + j]? = some (vp_cell (cs q1) z) := fun j hj => by
    have := Jvm.Free.Multi.fill_inner (T.setVm vm₁) (cs q0) (cs q1) n K (defaultValue ty) n j hj
    rw [hF, hTh, hz] at this
    exact this
  have hout : Jvm.Free.Multi.outerC (cs q0) n H.size n = vp_cell (cs q0) (n, .inr (.inr (.inr (.inr (fun i => if i < n then some (H.size + 1 + i) else none))))) := by
    rw [vp_cell_q]
    exact y_outer (cs q0) n H.size n
  rw [hout] at f2
  obtain ⟨hP, hD, hS⟩ := hH
  have hlen : ∀ k d', ((3, q0, (List.range n).map (fun i => i + 1)) :: List.replicate n d)[k]? = some d' → k < n + 1 := fun k d' h => by
    have := (List.getElem?_eq_some_iff.mp h).1
    simp at this
    omega
  have hP2 : va_P D vwCl (zv cs ((3, q0, (List.range n).map (fun i => i + 1)) :: List.replicate n d) (fun k => H.size + k) (fun _ _ => 0)) F.heap := by
    intro k y hy
    obtain ⟨d', hd', rfl⟩ := zv_of hy
    have hkn := hlen k d' hd'
    cases k with
    | zero =>
      cases hd'
      have e3 : (fun (i : Nat) => (((List.range n).map (fun i => i + 1))[i]?).map (fun k => H.size + k)) = fun i => if i < n then some (H.size + 1 + i) else none := by
        funext i
        by_cases hi : i < n
        · rw [if_pos hi, List.getElem?_map, List.getElem?_range hi]
          show some (H.size + (i + 1)) = _
          rw [show H.size + (i + 1) = H.size + 1 + i by omega]
        · rw [if_neg hi, List.getElem?_eq_none (by rw [List.length_map, List.length_range]; omega)]
          rfl
      show F.heap[H.size + 0]? = some (vp_cell (cs q0) (((List.range n).map (fun i => i + 1)).length, .inr (.inr (.inr (.inr (fun i => (((List.range n).map (fun i => i + 1))[i]?).map (fun k => H.size + k)))))))
      rw [e3, List.length_map, List.length_range]
      exact f2
    | succ j =>
      have hj : j < n := by omega
      have e4 : d' = d := by
        rw [List.getElem?_cons_succ, List.getElem?_replicate, if_pos hj] at hd'
        exact (Option.some.inj hd').symm
      subst e4
      have h := hd (fun k => H.size + k)
      show va_at D vwCl (H.size + (j + 1), zce' cs (fun k => H.size + k) (fun _ => 0) d') F.heap
      rw [h]
      show F.heap[H.size + (j + 1)]? = some (vp_cell (cs q1) z)
      rw [show H.size + (j + 1) = H.size + 1 + j by omega]
      exact hrow j hj
  have hD2 : va_D (fun x => (fun _ => False) x ∨ H.size ≤ x) (zv cs ((3, q0, (List.range n).map (fun i => i + 1)) :: List.replicate n d) (fun k => H.size + k) (fun _ _ => 0)) := by
    refine ⟨fun i j x y hi hj hxy => ?_, fun k y hy => ?_⟩
    · obtain ⟨d1, hd1, rfl⟩ := zv_of hi
      obtain ⟨d2, hd2, rfl⟩ := zv_of hj
      have hxy : H.size + i = H.size + j := hxy
      omega
    · obtain ⟨d1, hd1, rfl⟩ := zv_of hy
      exact Or.inr (Nat.le_add_right _ _)
  have hS1 : va_S A s.heap F.heap locs := ⟨by rw [f1]; have := hS.1; omega, fun x h1 h2 => (hold x (Nat.lt_of_lt_of_le h1 hS.1)).trans (hS.2.1 x h1 h2), hS.2.2⟩
  have hJ := zHv_join (s := s) (locs := locs) (locs1 := locs) (fun _ => False) hL hP hD hS hA (fun _ h => h.elim) (fun _ _ _ h => h) hP2 hD2 (fun x hx _ => hold x hx) hS1
  obtain ⟨t, a1, b1⟩ := kk (fun k => H.size + k) F.heap hJ F rfl X'
  refine ⟨t, step t ?_, b1⟩
  have e : T.heap.size = zca L.length α (fun k => H.size + k) L.length := by
    unfold zca
    rw [if_neg (show ¬ L.length < L.length by omega), Nat.sub_self, hT]
    rfl
  rw [e]
  exact a1
theorem y_getr (hX : zX p s m args c cc nL D cs own Ts) (hH : zHv D cs L α M A s H locs) (k j t : Nat) {index ci : Nat} {fs : List Nat} (hd : L[k]? = some (0, ci, fs)) (hf : fs[j]? = some (t + 2)) (hF : zF own Ts index ci j) (hdg : decode cc pc = .ok (.getfield index, 3))
    (kk : W p l e R s m args below meth c H locs cells slots Q (F0 m (pc + 3) ls (.ref (α t) :: rest))) : W p l e R s m args below meth c H locs cells slots Q (F0 m pc ls (.ref (α k) :: rest)) := by
  obtain ⟨C, T, N, hc, hin, hlink, hj, hC⟩ := hF
  obtain ⟨⟨hx, hb, hml, hown, hts⟩, hK⟩ := hX
  refine va_get (v := .ref (α t)) (fs := zfs α (M k) 0 fs) hx hb hts hin hown hK hH.1 k (zv_at hd) hc j hj (hts _ hlink) (fun x h => by rw [hC] at h; exact h) ?_ hdg kk
  rw [zfs_get, hf]
  rfl
theorem y_putn (hX : zX p s m args c cc nL D cs own Ts) (hH : zHv D cs L α M A s H locs) (k j t : Nat) {index ci : Nat} {fs : List Nat} {C : String} {T : u_T} {N : Nat} (hd : L[k]? = some (0, ci, fs)) (hj : j < fs.length) (hc : vwCl[ci]? = some (C, T, N)) (ty : Nat → FieldType) (hty : ∀ k, k < N → parseFieldDescriptor (T k).2.2.1 = some (ty k)) (hnm : ∀ a, a < N → ∀ b, b < N → a ≠ b → (T a).2.1 ≠ (T b).2.1) (hin : ∀ w ∈ u_ws C T N, w ∈ Ts) (hlink : Cond.fieldLink own index C (T j).2.1 (T j).2.2.1 ∈ Ts) (hjN : j < N) (hC : (T j).1 = C) (hfin : (T j).2.2.2 = false)
    (href : (ty j).isReference = true) (hfit : ∀ a, narrow (ty j) (.ref a) = .ref a ∧ fits (ty j) (.ref a) = true) (hdg : decode cc pc = .ok (.putfield index, 3))
    (kk : ∀ (H1 : Heap) (locs1 : List Loc), zHv D cs (L.set k (0, ci, fs.set j (t + 2))) α M A s H1 locs1 → W p l e R s m args below meth c H1 locs1 cells slots Q (F0 m (pc + 3) ls rest)) : W p l e R s m args below meth c H locs cells slots Q (F0 m pc ls (.ref (α t) :: .ref (α k) :: rest)) := by
  obtain ⟨⟨hx, hb, hml, hown, hts⟩, hK⟩ := hX
  have hset : ∀ (fs : List Nat) (o j : Nat), j < fs.length → (zfs α (M k) o fs).set j (.ref (α t)) = zfs α (M k) o (fs.set j (t + 2)) := by
    intro fs
    induction fs with
    | nil => intro o j h; cases h
    | cons c l ih =>
      intro o j h
      cases j with
      | zero => rfl
      | succ j =>
        show zfv α (M k o) c :: (zfs α (M k) (o + 1) l).set j (.ref (α t)) = zfv α (M k o) c :: zfs α (M k) (o + 1) (l.set j (t + 2))
        rw [ih (o + 1) j (by simpa using h)]
  refine va_put (v := .ref (α t)) (ty := ty j) hx hb hts hin ty hty hnm hown hK hH.1 hH.2.1 hH.2.2 k (fs := zfs α (M k) 0 fs) (zv_at hd) hc j hjN (hts _ hlink) (fun x h => by rw [hC] at h; exact h) hfin (hty j hjN) (hfit _).1 (hfit _).2 (by rw [zfs_len]; exact hj) hdg (fun H1 locs1 hP hD hS => kk H1 locs1 ⟨?_, zHv_D (by rw [List.length_set]) hH.2.1, hS⟩)
  rw [← zv_set (M' := M) (d' := (0, ci, fs.set j (t + 2))) hd (fun _ _ => rfl) rfl]
  have : (zce' cs α (M k) (0, ci, fs.set j (t + 2))) = .inr (ci, (zfs α (M k) 0 fs).set j (.ref (α t))) := by
    rw [hset fs 0 j hj]; rfl
  rw [this]
  exact hP
/-- a constructor's end, its memory told otherwise -/
theorem y_vretM {M' : zM} {a h : Nat} (hX : zX p s m args c cc nL D cs own Ts) (hr : meth.sig.returnType = none) (hlocks : meth.locks = false) (hH : zHv D cs L α M (yA a h) s H locs) (h0 : α 0 = a) (hM : ∀ k, k < L.length → M k = M' k) (hdg : decode cc pc = .ok (.return_, 1)) : W p l e R s m args below meth c H locs cells slots (MQ below (yQ D cs L M' a h) args s cells slots (yA a h)) (F0 m pc ls []) :=
  y_vret hX hr hlocks ⟨by rw [← zv_congr hM]; exact hH.1, by rw [← zv_congr hM]; exact hH.2.1, hH.2.2⟩ h0 hdg
end YM
/-! a constructor's end, its cells told in another order -/
def z43 (d : zD) : zD := match d with
  | (4, q, ts) => (3, q, ts.map (fun t => t - 1))
  | d => d
def z4g (d : zD) : Bool := match d with
  | (4, _, ts) => ts.all (fun t => decide (t ≠ 0))
  | _ => true
theorem zce'_43 {cs : Nat → ClassId} {α : Nat → Nat} {f : Nat → Int} {d : zD} (h : z4g d = true) : zce' cs α f d = zce cs α f (z43 d) := by
  obtain ⟨k, q, ts⟩ := d
  match k, h with
  | 0, _ => rfl
  | 1, _ => rfl
  | 2, _ => rfl
  | 3, _ => rfl
  | 4, h =>
    have h : ts.all (fun t => decide (t ≠ 0)) = true := h
    have e : (fun (i : Nat) => (ts[i]?).bind (fun t => if t = 0 then none else some (α (t - 1)))) = fun (i : Nat) => ((ts.map (fun t => t - 1))[i]?).map α := by
      funext i
      rw [List.getElem?_map]
      cases hi : ts[i]? with
      | none => rfl
      | some t =>
        have h1 : t ≠ 0 := by simpa using List.all_eq_true.mp h t (List.mem_of_getElem? hi)
        show (if t = 0 then none else some (α (t - 1)) : Option Nat) = some (α (t - 1))
        rw [if_neg h1]
    show (.inl (cs q, ts.length, .inr (.inr (.inr (.inr (fun i => (ts[i]?).bind (fun t => if t = 0 then none else some (α (t - 1)))))))) : va_E) = .inl (cs q, (ts.map (fun t => t - 1)).length, .inr (.inr (.inr (.inr (fun i => ((ts.map (fun t => t - 1))[i]?).map α)))))
    rw [e, List.length_map]
  | k + 5, _ => rfl
theorem zv_43 {cs : Nat → ClassId} {L : List zD} {α : Nat → Nat} {M : zM} (h : L.all z4g = true) : zv cs L α M = zw cs (L.map z43) α M := by
  apply List.ext_getElem?
  intro j
  by_cases hj : j < L.length
  · obtain ⟨d, hd⟩ : ∃ d, L[j]? = some d := ⟨_, List.getElem?_eq_getElem hj⟩
    rw [zv_at hd, zw_at (d := z43 d) (by rw [List.getElem?_map, hd]; rfl), zce'_43 (List.all_eq_true.mp h d (List.mem_of_getElem? hd))]
  · rw [List.getElem?_eq_none (by rw [zv_len]; omega), List.getElem?_eq_none (by rw [zw_len, List.length_map]; omega)]
theorem y_vretP {p : Program} {l : Launch} {e : Env} {R : Room} {s : State} {m : MethodId} {args : Array Value} {below : List Frame} {meth : Method} {c : Code} {H : Heap} {locs : List Loc} {cells slots : Nat} {cc : ByteArray} {pc nL : Nat} {ls : Array Slot} {D : va_G} {cs : Nat → ClassId} {own : String} {Ts : List Cond} {L Ld Lx : List zD} {α : Nat → Nat} {M : zM} {a h : Nat} {is : List Nat}
    (hX : zX p s m args c cc nL D cs own Ts) (hr : meth.sig.returnType = none) (hlocks : meth.locks = false) (hH : zHv D cs L α M (yA a h) s H locs) (h0 : α 0 = a) (eL : L.map z43 = Ld) (h4 : L.all z4g = true) (hem : zemb Ld Lx is = true)
    (hp : (Lx.all (fun d => decide (d.1 ≠ 4)) && (is.getD 0 0 == 0) && (List.range Lx.length).all (fun k => k == 0 || (decide (1 ≤ is.getD k 0) && decide (is.getD k 0 < L.length)))) = true) (hdg : decode cc pc = .ok (.return_, 1)) : W p l e R s m args below meth c H locs cells slots (MQ below (yQ D cs Lx (zpk is M) a h) args s cells slots (yA a h)) (F0 m pc ls []) := by
  subst eL
  obtain ⟨hP, hD, hS⟩ := hH
  have hD0 := hD
  rw [zv_43 h4] at hP hD
  rw [Bool.and_eq_true, Bool.and_eq_true] at hp
  obtain ⟨⟨hp1, hp2⟩, hp3⟩ := hp
  have hp2 : is.getD 0 0 = 0 := by simpa using hp2
  have hP' := zemb_P hem hP
  have hD' := zemb_D (M2 := zpk is M) hem hD
  rw [← zv_zw hp1] at hP' hD'
  refine W.vret hX.1.1 hX.1.2.1 hr (fun t ht hW => ⟨⟨zsb is α, rfl, ⟨?_, fun k hk hkl => ?_⟩, ⟨by show va_P D vwCl (zv cs Lx (zsb is α) (zpk is M)) t.heap; rw [ht]; exact hP', hD'⟩⟩, hS.F ht⟩) hS.2.2 hdg hlocks
  · show α (is.getD 0 0) = a
    rw [hp2]
    exact h0
  · have h5 := List.all_eq_true.mp hp3 k (List.mem_range.mpr hkl)
    rw [Bool.or_eq_true, Bool.and_eq_true] at h5
    rcases h5 with h5 | ⟨h5, h6⟩
    · have : k = 0 := by simpa using h5
      omega
    · show h ≤ α (is.getD k 0)
      exact y_new_at hD0 h0 (by simpa using h5) (by simpa using h6)
