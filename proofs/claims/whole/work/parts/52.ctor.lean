/-! constructors' contracts -/
def yA (a h : Nat) : Nat → Prop := fun q => q = a ∨ h ≤ q
def yPre (D : va_G) (cs : Nat → ClassId) (ci : Nat) (fs : List Nat) (a h : Nat) : Array Value → State → Prop := va_Pc [.ref a] (fun U => va_P D vwCl (zv cs [(0, ci, fs)] (fun _ => a) (fun _ _ => 0)) U.heap ∧ va_K D vwCl (zt cs) U ∧ U.heap.size = h)
def yQ (D : va_G) (cs : Nat → ClassId) (L : List zD) (M : zM) (a h : Nat) : Array Value → State → Outcome → State → Prop := va_Qv (S := Nat → Nat) (fun α => α 0 = a ∧ ∀ k, 1 ≤ k → k < L.length → h ≤ α k) (fun α t => va_P D vwCl (zv cs L α M) t.heap ∧ va_D (fun _ => True) (zv cs L α M)) (yA a h)
theorem zv_zw {cs : Nat → ClassId} {L : List zD} {α : Nat → Nat} {M : zM} (h : L.all (fun d => decide (d.1 ≠ 4)) = true) : zv cs L α M = zw cs L α M := by
  apply List.ext_getElem?
  intro j
  by_cases hj : j < L.length
  · obtain ⟨d, hd⟩ : ∃ d, L[j]? = some d := ⟨_, List.getElem?_eq_getElem hj⟩
    rw [zv_at hd, zw_at hd]
    have h4 := List.all_eq_true.mp h d (List.mem_of_getElem? hd)
    have h4 : d.1 ≠ 4 := by simpa using h4
    obtain ⟨k, q, ts⟩ := d
    match k, h4 with
    | 0, _ => rfl
    | 1, _ => rfl
    | 2, _ => rfl
    | 3, _ => rfl
    | 4, h4 => exact absurd rfl h4
    | k + 5, _ => rfl
  · rw [List.getElem?_eq_none (by rw [zv_len]; omega), List.getElem?_eq_none (by rw [zw_len]; omega)]
/-- a constructor's contract out of its body -/
theorem y_met {l : Launch} {D : va_G} {cs : Nat → ClassId} {ci a h mc ms : Nat} {fs : List Nat} {y : MethodName} {ws ws' : List Cond} {rm : Room} {Qc : Array Value → State → Outcome → State → Prop} {cc : ByteArray} {maxL : Nat}
    (hy : plainName y.cls = true) (hw : ws = Cond.code y cc maxL none :: ws') (own : String) (hown : y.cls = own) (hlen : 1 ≤ maxL)
    (body : ∀ (p : Program) (e : Env) (s : State) (m : MethodId) (below : List Frame) (meth : Method) (c : Code) (ls : Array Slot), zX p s m #[.ref a] c cc maxL D cs own ws → meth.sig.returnType = none → meth.locks = false → meth.name = y.name → s.heap.size = h → zHv D cs [(0, ci, fs)] (fun _ => a) (fun _ _ => 0) (yA a h) s s.heap [] → lv_has ls maxL (lv_args 0 [.ref a]) →
      W p l e (headSpec ws rm).room s m #[.ref a] below meth c s.heap [] 0 0 (MQ below Qc #[.ref a] s mc ms (yA a h)) (F0 m 0 ls [])) : Met l y ws rm (yPre D cs ci fs a h) Qc mc ms (yA a h) := by
  refine Met.ofW (cc := cc) (maxL := maxL) (ret := none) hy hw ?_
  intro p e s m args below meth c s₁ B hml hv
  obtain ⟨rfl, hP, hK, hz⟩ := hv
  have hent : entryFrame m #[Value.ref a] maxL = entryFrame m ([Value.ref a] : List Value).toArray maxL := rfl
  rw [hent, lg_entry_eq]
  refine body p e s m below meth c _ ⟨⟨B.exec, B.bytes, hml, ?_, atoms_spec (ws := ws) B.pre⟩, hK⟩ B.returns B.notSynchronized ?_ hz ⟨hP, ⟨fun i j p q hi hj _ => ?_, fun k q hk => ?_⟩, va_S.rf⟩ (lv_entry [.ref a] (by show 1 ≤ maxL; exact hlen))
  · rw [← hown]
    exact findClass_of_methodNamed B.named
  · exact (name_of_methodNamed B.named B.method).1
  · have h1 := (List.getElem?_eq_some_iff.mp hi).1
    have h2 := (List.getElem?_eq_some_iff.mp hj).1
    rw [zv_len] at h1 h2
    simp at h1 h2
    omega
  · obtain ⟨d, hd, rfl⟩ := zv_of hk
    exact Or.inl rfl
/-- what a constructor has made is new -/
theorem y_new_at {a h : Nat} {cs : Nat → ClassId} {L : List zD} {α : Nat → Nat} {M : zM} (hD : va_D (yA a h) (zv cs L α M)) (h0 : α 0 = a) {k : Nat} (hk : 1 ≤ k) (hkl : k < L.length) : h ≤ α k := by
  have g0 := zv_at (cs := cs) (α := α) (M := M) (List.getElem?_eq_getElem (show 0 < L.length by omega))
  have gk := zv_at (cs := cs) (α := α) (M := M) (List.getElem?_eq_getElem hkl)
  rcases hD.2 k _ gk with q | q
  · have q : α k = a := q
    have := hD.1 k 0 _ _ gk g0 (by show α k = α 0; rw [q, h0])
    omega
  · exact q
/-- a constructor's end -/
theorem y_vret {p : Program} {l : Launch} {e : Env} {R : Room} {s : State} {m : MethodId} {args : Array Value} {below : List Frame} {meth : Method} {c : Code} {H : Heap} {locs : List Loc} {cells slots : Nat} {cc : ByteArray} {pc nL : Nat} {ls : Array Slot} {D : va_G} {cs : Nat → ClassId} {own : String} {Ts : List Cond} {L : List zD} {α : Nat → Nat} {M : zM} {a h : Nat}
    (hX : zX p s m args c cc nL D cs own Ts) (hr : meth.sig.returnType = none) (hlocks : meth.locks = false) (hH : zHv D cs L α M (yA a h) s H locs) (h0 : α 0 = a) (hdg : decode cc pc = .ok (.return_, 1)) : W p l e R s m args below meth c H locs cells slots (MQ below (yQ D cs L M a h) args s cells slots (yA a h)) (F0 m pc ls []) :=
  W.vret hX.1.1 hX.1.2.1 hr (fun t ht hW => ⟨⟨α, rfl, ⟨h0, fun k hk hkl => y_new_at hH.2.1 h0 hk hkl⟩, ⟨by show va_P D vwCl (zv cs L α M) t.heap; rw [ht]; exact hH.1, hH.2.1.weaken (fun _ _ _ _ => trivial)⟩⟩, hH.2.2.F ht⟩) hH.2.2.2.2 hdg hlocks
