/-! the world that a constructor makes, beside its caller's -/
def zshf (n : Nat) (d : zD) : zD := match d with
  | (0, ci, fs) => (0, ci, fs.map (fun c => if c < 2 then c else c + n))
  | (1, k, l) => (1, k, l)
  | (2, k, l) => (2, k, l)
  | (3, q, ts) => (3, q, ts.map (fun t => t + n))
  | (4, q, ts) => (4, q, ts.map (fun t => if t = 0 then 0 else t + n))
  | (a + 5, q, ts) => (a + 5, q, ts.map (fun t => t + n))
def zca (n : Nat) (α β : Nat → Nat) : Nat → Nat := fun k => if k < n then α k else β (k - n)
def zMc (n : Nat) (M M2 : zM) : zM := fun k => if k < n then M k else M2 (k - n)
theorem zca_add (n t : Nat) (α β : Nat → Nat) : zca n α β (t + n) = β t := by
  unfold zca
  rw [if_neg (show ¬ t + n < n by omega), Nat.add_sub_cancel]
theorem zfs_shf (n : Nat) (α β : Nat → Nat) (f : Nat → Int) : ∀ (fs : List Nat) (o : Nat), zfs (zca n α β) f o (fs.map (fun c => if c < 2 then c else c + n)) = zfs β f o fs
  | [], _ => rfl
  | c :: l, o => by
    show zfv (zca n α β) (f o) (if c < 2 then c else c + n) :: zfs (zca n α β) f (o + 1) (l.map _) = zfv β (f o) c :: zfs β f (o + 1) l
    rw [zfs_shf n α β f l (o + 1)]
    congr 1
    match c with
    | 0 => rfl
    | 1 => rfl
    | t + 2 =>
      rw [if_neg (show ¬ t + 2 < 2 by omega), show t + 2 + n = (t + n) + 2 by omega]
      show Value.ref (zca n α β (t + n)) = Value.ref (β t)
      rw [zca_add]
theorem zce'_shf (cs : Nat → ClassId) (n : Nat) (α β : Nat → Nat) (f : Nat → Int) (d : zD) : zce' cs (zca n α β) f (zshf n d) = zce' cs β f d := by
  obtain ⟨k, q, ts⟩ := d
  have h3 : (fun (i : Nat) => ((ts.map (fun t => t + n))[i]?).map (zca n α β)) = fun (i : Nat) => (ts[i]?).map β := by
    funext i
    rw [List.getElem?_map, Option.map_map]
    congr 1
    funext t
    exact zca_add n t α β
  match k with
  | 0 =>
    show (Sum.inr (q, zfs (zca n α β) f 0 (ts.map (fun c => if c < 2 then c else c + n))) : va_E) = Sum.inr (q, zfs β f 0 ts)
    rw [zfs_shf]
  | 1 => rfl
  | 2 => rfl
  | 3 =>
    show (.inl (cs q, (ts.map (fun t => t + n)).length, .inr (.inr (.inr (.inr (fun i => ((ts.map (fun t => t + n))[i]?).map (zca n α β)))))) : va_E) = .inl (cs q, ts.length, .inr (.inr (.inr (.inr (fun i => (ts[i]?).map β)))))
    rw [List.length_map, h3]
  | 4 =>
    have h4 : (fun (i : Nat) => ((ts.map (fun t => if t = 0 then 0 else t + n))[i]?).bind (fun t => if t = 0 then none else some (zca n α β (t - 1)))) = fun (i : Nat) => (ts[i]?).bind (fun t => if t = 0 then none else some (β (t - 1))) := by
      funext i
      rw [List.getElem?_map]
      cases ts[i]? with
      | none => rfl
      | some t =>
        show (if (if t = 0 then 0 else t + n) = 0 then none else some (zca n α β ((if t = 0 then 0 else t + n) - 1))) = (if t = 0 then none else some (β (t - 1)) : Option Nat)
        by_cases h0 : t = 0
        · subst h0; rfl
        · have e1 : (if t = 0 then 0 else t + n) = t + n := if_neg h0
          have e2 : (if t = 0 then none else some (β (t - 1)) : Option Nat) = some (β (t - 1)) := if_neg h0
          rw [e1, e2, if_neg (show ¬ t + n = 0 by omega), show t + n - 1 = (t - 1) + n by omega, zca_add]
    show (.inl (cs q, (ts.map (fun t => if t = 0 then 0 else t + n)).length, .inr (.inr (.inr (.inr (fun i => ((ts.map (fun t => if t = 0 then 0 else t + n))[i]?).bind (fun t => if t = 0 then none else some (zca n α β (t - 1)))))))) : va_E) = .inl (cs q, ts.length, .inr (.inr (.inr (.inr (fun i => (ts[i]?).bind (fun t => if t = 0 then none else some (β (t - 1))))))))
    rw [List.length_map, h4]
  | a + 5 =>
    show (.inl (cs q, (ts.map (fun t => t + n)).length, .inr (.inr (.inr (.inr (fun i => ((ts.map (fun t => t + n))[i]?).map (zca n α β)))))) : va_E) = .inl (cs q, ts.length, .inr (.inr (.inr (.inr (fun i => (ts[i]?).map β)))))
    rw [List.length_map, h3]
theorem zv_cat {cs : Nat → ClassId} {L Lk : List zD} {α β : Nat → Nat} {M M2 : zM} (hL : zrs L = true) : zv cs (L ++ Lk.map (zshf L.length)) (zca L.length α β) (zMc L.length M M2) = zv cs L α M ++ zv cs Lk β M2 := by
  have ha : ∀ t, t < L.length → zca L.length α β t = α t := fun t ht => by unfold zca; rw [if_pos ht]
  have hm : ∀ t, t < L.length → zMc L.length M M2 t = M t := fun t ht => by unfold zMc; rw [if_pos ht]
  apply List.ext_getElem?
  intro j
  by_cases hj : j < L.length
  · obtain ⟨d', hd'⟩ : ∃ d', L[j]? = some d' := ⟨_, List.getElem?_eq_getElem hj⟩
    rw [zv_at (d := d') (by rw [List.getElem?_append_left hj]; exact hd'), List.getElem?_append_left (by rw [zv_len]; exact hj), zv_at hd', ha j hj, hm j hj, zce'_al ha (List.all_eq_true.mp hL d' (List.mem_of_getElem? hd'))]
  · have hr : (zv cs L α M ++ zv cs Lk β M2)[j]? = (zv cs Lk β M2)[j - L.length]? := by
      rw [List.getElem?_append_right (by rw [zv_len]; omega), zv_len]
    rw [hr]
    by_cases hj2 : j - L.length < Lk.length
    · obtain ⟨d', hd'⟩ : ∃ d', Lk[j - L.length]? = some d' := ⟨_, List.getElem?_eq_getElem hj2⟩
      have e1 : zca L.length α β j = β (j - L.length) := by unfold zca; rw [if_neg hj]
      have e2 : zMc L.length M M2 j = M2 (j - L.length) := by unfold zMc; rw [if_neg hj]
      rw [zv_at (d := zshf L.length d') (by rw [List.getElem?_append_right (by omega), List.getElem?_map, hd']; rfl), zv_at hd', zce'_shf, e1, e2]
    · rw [List.getElem?_eq_none (by rw [zv_len, List.length_append, List.length_map]; omega), List.getElem?_eq_none (by rw [zv_len]; omega)]
theorem zHv_join {D : va_G} {cs : Nat → ClassId} {L Lk : List zD} {α β : Nat → Nat} {M M2 : zM} {A : Nat → Prop} {s : State} {H H1 : Heap} {locs locs1 : List Loc} (B : Nat → Prop) (hL : zrs L = true) (hP : va_P D vwCl (zv cs L α M) H) (hD : va_D A (zv cs L α M)) (hS : va_S A s.heap H locs) (hA : ∀ q, s.heap.size ≤ q → A q) (hBA : ∀ x, B x → A x) (hBn : ∀ (k : Nat) (y : Nat × va_E), (zv cs L α M)[k]? = some y → ¬ B y.1)
    (hP2 : va_P D vwCl (zv cs Lk β M2) H1) (hD2 : va_D (fun x => B x ∨ H.size ≤ x) (zv cs Lk β M2)) (hk : ∀ q : Nat, q < H.size → ¬ B q → H1[q]? = H[q]?) (hS1 : va_S A s.heap H1 locs1) : zHv D cs (L ++ Lk.map (zshf L.length)) (zca L.length α β) (zMc L.length M M2) A s H1 locs1 := by
  refine ⟨?_, ?_, hS1⟩
  · rw [zv_cat hL]
    exact va_P.app (hP.kept (fun k q hq => hk q.1 ((hP k q hq).lt) (hBn k q hq))) hP2
  · rw [zv_cat hL]
    refine va_D.app hD (hD2.weaken (fun k q _ h => ?_)) (fun i j x y hx hy hxy => ?_)
    · rcases h with h | h
      · exact hBA _ h
      · exact hA _ (Nat.le_trans hS.1 h)
    · have h1 := (hP i x hx).lt
      have h2 := hBn i x hx
      rcases hD2.2 j y hy with h | h
      · exact h2 (by rw [hxy]; exact h)
      · rw [hxy] at h1
        omega
/-! what the tables say besides, of this system -/
def yZ (U : State) : Prop := (va_Nw (.methodLinkNest RX3 32 yX1_init RX7) U ∧ va_Nw (.methodLinkNest RX3 39 yX0_init RX7) U ∧ va_Nw (.methodLinkNest RX7 23 yX5_init RX7) U ∧ va_Nw (.methodLinkNest RX7 40 yX6_init RX7) U ∧ va_Nw (.methodLinkNest RX7 41 yX4_init RX7) U) ∧
  va_AO RX6 U ∧ va_AO RX4 U ∧ (Cond.arrayOver (.array .int)).before #[] U = true ∧ (Cond.arrayOver (.array .long)).before #[] U = true
theorem yZ_warm {s U : State} (hW : s.WarmedH U.vm) (h : yZ s) : yZ U :=
  ⟨⟨va_Nw.warmM hW h.1.1, va_Nw.warmM hW h.1.2.1, va_Nw.warmM hW h.1.2.2.1, va_Nw.warmM hW h.1.2.2.2.1, va_Nw.warmM hW h.1.2.2.2.2⟩, va_AO.moved hW.alike h.2.1, va_AO.moved hW.alike h.2.2.1, over_moved hW.alike h.2.2.2.1, over_moved hW.alike h.2.2.2.2⟩
theorem yZ_same {u U : State} (e : u.vm = U.vm) (h : yZ u) : yZ U :=
  ⟨⟨va_Nw.same rfl e h.1.1, va_Nw.same rfl e h.1.2.1, va_Nw.same rfl e h.1.2.2.1, va_Nw.same rfl e h.1.2.2.2.1, va_Nw.same rfl e h.1.2.2.2.2⟩, va_AO.moved (by rw [e]; exact Vm.Alike.refl _) h.2.1, va_AO.moved (by rw [e]; exact Vm.Alike.refl _) h.2.2.1, over_moved (by rw [e]; exact Vm.Alike.refl _) h.2.2.2.1, over_moved (by rw [e]; exact Vm.Alike.refl _) h.2.2.2.2⟩
def yPreZ (D : va_G) (cs : Nat → ClassId) (ci : Nat) (fs : List Nat) (a h : Nat) : Array Value → State → Prop := va_Pc [.ref a] (fun U => va_P D vwCl (zv cs [(0, ci, fs)] (fun _ => a) (fun _ _ => 0)) U.heap ∧ va_K D vwCl (zt cs) U ∧ U.heap.size = h ∧ yZ U)
theorem yPre_blind {D : va_G} {cs : Nat → ClassId} {ci : Nat} {fs : List Nat} {a h : Nat} : FrameBlind (yPre D cs ci fs a h) := fun b U g mk q => by
  obtain ⟨q0, qP, qK, qH⟩ := q
  exact ⟨q0, qP, va_K.moved (u := U) (U := U.calling g mk b) (Vm.Alike.refl U.vm) qK, qH⟩
theorem yPreZ_blind {D : va_G} {cs : Nat → ClassId} {ci : Nat} {fs : List Nat} {a h : Nat} : FrameBlind (yPreZ D cs ci fs a h) := fun b U g mk q => by
  obtain ⟨q0, qP, qK, qH, qZ⟩ := q
  exact ⟨q0, qP, va_K.moved (u := U) (U := U.calling g mk b) (Vm.Alike.refl U.vm) qK, qH, yZ_same (u := U) (U := U.calling g mk b) rfl qZ⟩
/-- a constructor's contract out of its body, with what the tables say besides -/
theorem y_metZ {l : Launch} {D : va_G} {cs : Nat → ClassId} {ci a h mc ms : Nat} {fs : List Nat} {y : MethodName} {ws ws' : List Cond} {rm : Room} {Qc : Array Value → State → Outcome → State → Prop} {cc : ByteArray} {maxL : Nat}
    (hy : plainName y.cls = true) (hw : ws = Cond.code y cc maxL none :: ws') (own : String) (hown : y.cls = own) (hlen : 1 ≤ maxL)
    (body : ∀ (p : Program) (e : Env) (s : State) (m : MethodId) (below : List Frame) (meth : Method) (c : Code) (ls : Array Slot), zX p s m #[.ref a] c cc maxL D cs own ws → meth.sig.returnType = none → meth.locks = false → meth.name = y.name → s.heap.size = h → yZ s → zHv D cs [(0, ci, fs)] (fun _ => a) (fun _ _ => 0) (yA a h) s s.heap [] → lv_has ls maxL (lv_args 0 [.ref a]) →
      W p l e (headSpec ws rm).room s m #[.ref a] below meth c s.heap [] 0 0 (MQ below Qc #[.ref a] s mc ms (yA a h)) (F0 m 0 ls [])) : Met l y ws rm (yPreZ D cs ci fs a h) Qc mc ms (yA a h) := by
  refine Met.ofW (cc := cc) (maxL := maxL) (ret := none) hy hw ?_
  intro p e s m args below meth c s₁ B hml hv
  obtain ⟨rfl, hP, hK, hz, hZ⟩ := hv
  have hent : entryFrame m #[Value.ref a] maxL = entryFrame m ([Value.ref a] : List Value).toArray maxL := rfl
  rw [hent, lg_entry_eq]
  refine body p e s m below meth c _ ⟨⟨B.exec, B.bytes, hml, ?_, atoms_spec (ws := ws) B.pre⟩, hK⟩ B.returns B.notSynchronized ?_ hz hZ ⟨hP, ⟨fun i j p q hi hj _ => ?_, fun k q hk => ?_⟩, va_S.rf⟩ (lv_entry [.ref a] (by show 1 ≤ maxL; exact hlen))
  · rw [← hown]
    exact findClass_of_methodNamed B.named
  · exact (name_of_methodNamed B.named B.method).1
  · have h1 := (List.getElem?_eq_some_iff.mp hi).1
    have h2 := (List.getElem?_eq_some_iff.mp hj).1
    rw [zv_len] at h1 h2
    simp at h1 h2
    omega
  · obtain ⟨d, hd, rfl⟩ := zv_of hk
    exact Or.inl rfl
section YC
variable {p : Program} {l : Launch} {e : Env} {R : Room} {s : State} {m : MethodId} {args : Array Value} {below : List Frame} {meth : Method} {c : Code} {H : Heap} {locs : List Loc} {cells slots : Nat} {Q : State → Prop}
variable {cc : ByteArray} {pc nL : Nat} {ls : Array Slot} {rest : List Value} {D : va_G} {cs : Nat → ClassId} {own : String} {Ts : List Cond} {L L1 Lk : List zD} {α : Nat → Nat} {M Mk : zM} {A : Nat → Prop} {q ci : Nat} {fs : List Nat}
theorem y_fresh (hH : zHv D cs (L ++ [(0, ci, fs)]) (zal α L.length q) M A s H locs) (hL : zrs L = true) (hr : fs.all (fun c => decide (c < 2)) = true) : zv cs (L ++ [(0, ci, fs)]) (zal α L.length q) M = zv cs L α M ++ [(q, zce' cs α (M L.length) (0, ci, fs))] := zv_push hL (by
    show fs.all (fun c => decide (c < L.length + 2)) = true
    rw [List.all_eq_true]
    intro c hc
    have : c < 2 := by simpa using List.all_eq_true.mp hr c hc
    simp
    omega)
theorem y_one (hH : zHv D cs (L ++ [(0, ci, fs)]) (zal α L.length q) M A s H locs) (hL : zrs L = true) (hr : fs.all (fun c => decide (c < 2)) = true) (hz : M L.length = fun _ => 0) : va_P D vwCl (zv cs [(0, ci, fs)] (fun _ => q) (fun _ _ => 0)) H := by
  have h := hH.1
  rw [y_fresh hH hL hr] at h
  intro k y hy
  obtain ⟨d, hd, rfl⟩ := zv_of hy
  have hk : k = 0 := by
    have := (List.getElem?_eq_some_iff.mp hd).1
    simp at this
    omega
  subst hk
  cases hd
  have h1 := h L.length _ (by rw [List.getElem?_append_right (by rw [zv_len]; omega), zv_len, Nat.sub_self]; rfl)
  rw [hz] at h1
  have e1 : zce' cs α (fun _ => 0) (0, ci, fs) = zce' cs (fun _ => q) (fun _ => 0) (0, ci, fs) := by
    show (Sum.inr (ci, zfs α (fun _ => 0) 0 fs) : va_E) = Sum.inr (ci, zfs (fun _ => q) (fun _ => 0) 0 fs)
    rw [zfs_al (n := 0) (fun t ht => by omega) fs 0 (fun c hc => by have : c < 2 := by simpa using List.all_eq_true.mp hr c hc
                                                                    omega)]
  rw [e1] at h1
  exact h1
theorem y_pre (hX : zX p s m args c cc nL D cs own Ts) (hH : zHv D cs (L ++ [(0, ci, fs)]) (zal α L.length q) M A s H locs) (hL : zrs L = true) (hr : fs.all (fun c => decide (c < 2)) = true) (hz : M L.length = fun _ => 0) : PreS s H (yPre D cs ci fs q H.size) [.ref q] :=
  ⟨yPre_blind, fun U hU hW => ⟨rfl, by rw [hU]; exact y_one hH hL hr hz, va_K.moved hW.alike hX.2, by rw [hU]⟩⟩
theorem y_preZ (hX : zX p s m args c cc nL D cs own Ts) (hZ : yZ s) (hH : zHv D cs (L ++ [(0, ci, fs)]) (zal α L.length q) M A s H locs) (hL : zrs L = true) (hr : fs.all (fun c => decide (c < 2)) = true) (hz : M L.length = fun _ => 0) : PreS s H (yPreZ D cs ci fs q H.size) [.ref q] :=
  ⟨yPreZ_blind, fun U hU hW => ⟨rfl, by rw [hU]; exact y_one hH hL hr hz, va_K.moved hW.alike hX.2, by rw [hU], yZ_warm hW hZ⟩⟩
/-- behind a constructor's call -/
theorem y_back {mc ms : Nat} (hH : zHv D cs (L ++ [(0, ci, fs)]) (zal α L.length q) M A s H locs) (hL : zrs L = true) (hA : ∀ x, s.heap.size ≤ x → A x) (hr : fs.all (fun c => decide (c < 2)) = true) (eL : L1 = L ++ Lk.map (zshf L.length))
    (run : va_Run p l e R s m args below meth c H locs cells slots mc ms (F0 m pc ls (.ref q :: .ref q :: rest)) (.ref q :: rest) (yQ D cs Lk Mk q H.size (Value.ref q :: []).toArray) (yA q H.size))
    (kk : ∀ (β : Nat → Nat) (H1 : Heap) (locs1 : List Loc), zHv D cs L1 (zca L.length α β) (zMc L.length M Mk) A s H1 locs1 → W p l e R s m args below meth c H1 locs1 (cells + mc) (slots + ms) Q (F0 m (pc + 3) ls (.ref (zca L.length α β L.length) :: rest))) : W p l e R s m args below meth c H locs cells slots Q (F0 m pc ls (.ref q :: .ref q :: rest)) := by
  subst eL
  have hf := y_fresh hH hL hr
  obtain ⟨hP, hD, hS⟩ := hH
  rw [hf] at hP hD
  have hqi : (zv cs L α M ++ [(q, zce' cs α (M L.length) (0, ci, fs))])[L.length]? = some (q, zce' cs α (M L.length) (0, ci, fs)) := by
    rw [List.getElem?_append_right (by rw [zv_len]; omega), zv_len, Nat.sub_self]; rfl
  have hqA : A q := hD.2 _ _ hqi
  have hleft : ∀ (k : Nat) (y : Nat × va_E), (zv cs L α M)[k]? = some y → (zv cs L α M ++ [(q, zce' cs α (M L.length) (0, ci, fs))])[k]? = some y := fun k y hy => by
    rw [List.getElem?_append_left (List.getElem?_eq_some_iff.mp hy).1]; exact hy
  have hyA : ∀ x, yA q H.size x → A x := fun x hx => by
    rcases hx with rfl | hx
    · exact hqA
    · exact hA x (Nat.le_trans hS.1 hx)
  refine va_callv (S := Nat → Nat) run hS (fun x _ h => hyA x h) hyA (fun β t H1 locs1 ht hvm hp hB hz hk hS1 => ?_)
  obtain ⟨hb0, hb1⟩ := hp
  obtain ⟨hB1, hB2⟩ := hB
  have hB1 : va_P D vwCl (zv cs Lk β Mk) t.heap := hB1
  rw [ht] at hB1
  have hq0 : zca L.length α β L.length = q := by
    rw [← hb0]
    unfold zca
    rw [if_neg (show ¬ L.length < L.length by omega), Nat.sub_self]
  have := kk β H1 locs1 (zHv_join (fun x => x = q) hL (fun k y hy => hP k y (hleft k y hy)) ⟨fun i j x y hi hj => hD.1 i j x y (hleft i x hi) (hleft j y hj), fun k y hy => hD.2 k y (hleft k y hy)⟩ hS hA (fun x hx => by rw [hx]; exact hqA) (fun k y hy e => by
      have h1 := hD.1 k L.length y _ (hleft k y hy) hqi e
      have h2 := (List.getElem?_eq_some_iff.mp hy).1
      rw [zv_len] at h2
      omega) hB1 ⟨hB2.1, fun k y hy => by
      obtain ⟨d, hd, rfl⟩ := zv_of hy
      have hkl := (List.getElem?_eq_some_iff.mp hd).1
      show β k = q ∨ H.size ≤ β k
      by_cases h0 : k = 0
      · rw [h0]; exact Or.inl hb0
      · exact Or.inr (hb1 k (by omega) hkl)⟩ (fun x hx hxq => hk x hx (fun h => by
      rcases h with h | h
      · exact hxq h
      · omega)) hS1)
  rw [hq0] at this
  exact this
end YC
