def zc2 {α β γ : Type} (x : Option (α × β)) (f : α → β → Option γ) : Option γ := match x with
  | none => none
  | some (a, b) => f a b
theorem zc2_e {α β γ : Type} {x : Option (α × β)} {f : α → β → Option γ} {r : γ} (h : zc2 x f = some r) : ∃ a b, x = some (a, b) ∧ f a b = some r := by
  cases x with
  | none => cases h
  | some q => exact ⟨q.1, q.2, rfl, h⟩
def zmin (a b : Int) : Int := if b < a then b else a
def zmax (a b : Int) : Int := if a < b then b else a
/-- the int, byte, short that a long's lowest bits are -/
def zI (a : Int) : Int := (Int32.ofInt a).toInt
def zB (a : Int) : Int := (Int8.ofInt a).toInt
def zS (a : Int) : Int := (Int16.ofInt a).toInt
/-- n places of cell k0 from i0 on come to cell k1 from i1 on -/
def zcp (M : zM) (k0 k1 i0 i1 n : Nat) : zM := fun a b => if a = k1 ∧ i1 ≤ b ∧ b < i1 + n then M k0 (i0 + (b - i1)) else M a b
theorem zcp_ne {M : zM} {k0 k1 i0 i1 n k' : Nat} (h : k' ≠ k1) : zcp M k0 k1 i0 i1 n k' = M k' := by
  funext b
  unfold zcp
  rw [if_neg (fun q => h q.1)]
/-- a place in a method's code is reached with these locals and this stack over this memory -/
def zGo (p : Program) (l : Launch) (e : Env) (R : Room) (s : State) (m : MethodId) (args : Array Value) (below : List Frame) (meth : Method) (c : Code) (Q : State → Prop) (D : va_G) (cs : Nat → ClassId) (L : List zD) (α : Nat → Nat) (A : Nat → Prop) (nL pc : Nat) (lv : List (Nat × Value)) (st : List Value) (M : zM) : Prop :=
  ∀ (H : Heap) (locs : List Loc) (ls : Array Slot), zH D cs L α M A s H locs → lv_has ls nL lv → W p l e R s m args below meth c H locs 0 0 Q (F0 m pc ls st)
theorem z_met {l : Launch} {D : va_G} {cs : Nat → ClassId} {L : List zD} {α : Nat → Nat} {M : zM} {av : List Value} {y : MethodName} {ws ws' : List Cond} {rm : Room} {Qc : Array Value → State → Outcome → State → Prop} {cc : ByteArray} {maxL : Nat} {ret : Option FieldType}
    (hy : plainName y.cls = true) (hw : ws = Cond.code y cc maxL ret :: ws') (own : String) (hown : y.cls = own) (hlen : (lg_sl av).length ≤ maxL)
    (body : ∀ (p : Program) (e : Env) (s : State) (m : MethodId) (below : List Frame) (meth : Method) (c : Code) (ls : Array Slot), zX p s m av.toArray c cc maxL D cs own ws → meth.sig.returnType = ret → meth.locks = false → zH D cs L α M (zA L.length α) s s.heap [] → lv_has ls maxL (lv_args 0 av) →
      W p l e (headSpec ws rm).room s m av.toArray below meth c s.heap [] 0 0 (MQ below Qc av.toArray s 0 0 (zA L.length α)) (F0 m 0 ls [])) : Met l y ws rm (zPre D cs L α M av) Qc 0 0 (zA L.length α) := by
  refine Met.ofW (cc := cc) (maxL := maxL) (ret := ret) hy hw ?_
  intro p e s m args below meth c s₁ B hml hv
  obtain ⟨rfl, hP, hK, hD0⟩ := hv
  rw [lg_entry_eq]
  refine body p e s m below meth c _ ⟨⟨B.exec, B.bytes, hml, ?_, atoms_spec (ws := ws) B.pre⟩, hK⟩ B.returns B.notSynchronized ⟨hP, zD_self hD0, va_S.rf⟩ (lv_entry av hlen)
  rw [← hown]
  exact findClass_of_methodNamed B.named
theorem z_metF {l : Launch} {D : va_G} {cs : Nat → ClassId} {L : List zD} {α : Nat → Nat} {M : zM} {av : List Value} {y : MethodName} {ws ws' : List Cond} {rm : Room} {Qc : Array Value → State → Outcome → State → Prop} {cc : ByteArray} {maxL : Nat} {ret : Option FieldType}
    (hy : plainFor y = true) (hw : ws = Cond.code y cc maxL ret :: ws') (own : String) (hown : y.cls = own) (hlen : (lg_sl av).length ≤ maxL)
    (body : ∀ (p : Program) (e : Env) (s : State) (m : MethodId) (below : List Frame) (meth : Method) (c : Code) (ls : Array Slot), zX p s m av.toArray c cc maxL D cs own ws → meth.sig.returnType = ret → meth.locks = false → zH D cs L α M (zA L.length α) s s.heap [] → lv_has ls maxL (lv_args 0 av) →
      W p l e (headSpec ws rm).room s m av.toArray below meth c s.heap [] 0 0 (MQ below Qc av.toArray s 0 0 (zA L.length α)) (F0 m 0 ls [])) : Met l y ws rm (zPre D cs L α M av) Qc 0 0 (zA L.length α) := by
  refine va_MetF (cc := cc) (maxL := maxL) (ret := ret) hy hw ?_
  intro p e s m args below meth c s₁ B hml hv
  obtain ⟨rfl, hP, hK, hD0⟩ := hv
  rw [lg_entry_eq]
  refine body p e s m below meth c _ ⟨⟨B.exec, B.bytes, hml, ?_, atoms_spec (ws := ws) B.pre⟩, hK⟩ B.returns B.notSynchronized ⟨hP, zD_self hD0, va_S.rf⟩ (lv_entry av hlen)
  rw [← hown]
  exact findClass_of_methodNamed B.named
theorem z_bool {v : Int} (h : v = 0 ∨ v = 1) : narrow .boolean (.int (nZ v)) = .int (nZ v) := by
  rcases h with rfl | rfl <;> rfl
section ZB2
variable {p : Program} {l : Launch} {e : Env} {R : Room} {s : State} {m : MethodId} {args : Array Value} {below : List Frame} {meth : Method} {c : Code} {H : Heap} {locs : List Loc} {cells slots : Nat} {Q : State → Prop}
variable {cc : ByteArray} {pc : Nat} {ls : Array Slot} {rest : List Value}
theorem z_istore_n {a v : Int} (he : v = a) {k : Fin 4} {i nL : Nat} {lv lv' : List (Nat × Value)} (hx : p.tables.exec = Jvm.exec) (hb : c.code = cc) (hdg : decode cc pc = .ok (.istore_n k, 1)) (hi : (k : Nat) = i) (h : lv_has ls nL lv) (hn : i < nL) (hl : (i, Value.int (nZ v)) :: lv.filter (fun q => !(q.1 == i) && !(q.1 + 1 == i && q.2.category == 2)) = lv')
    (kk : ∀ ls' : Array Slot, lv_has ls' nL lv' → W p l e R s m args below meth c H locs cells slots Q (F0 m (pc + 1) ls' rest)) : W p l e R s m args below meth c H locs cells slots Q (F0 m pc ls (.int (nZ a) :: rest)) := by
  subst he
  exact lv_istore_n hx hb hdg hi h hn hl kk
theorem z_istore {a v : Int} (he : v = a) {i nL : Nat} {lv lv' : List (Nat × Value)} (hx : p.tables.exec = Jvm.exec) (hb : c.code = cc) (hdg : decode cc pc = .ok (.istore i, 2)) (h : lv_has ls nL lv) (hn : i < nL) (hl : (i, Value.int (nZ v)) :: lv.filter (fun q => !(q.1 == i) && !(q.1 + 1 == i && q.2.category == 2)) = lv')
    (kk : ∀ ls' : Array Slot, lv_has ls' nL lv' → W p l e R s m args below meth c H locs cells slots Q (F0 m (pc + 2) ls' rest)) : W p l e R s m args below meth c H locs cells slots Q (F0 m pc ls (.int (nZ a) :: rest)) := by
  subst he
  exact lv_istore hx hb hdg h hn hl kk
theorem z_iinc {a v n : Int} (he : v = a + n) {i nL k : Nat} {lv lv' : List (Nat × Value)} (hx : p.tables.exec = Jvm.exec) (hb : c.code = cc) (hdg : decode cc pc = .ok (.iinc i n, 3)) (h : lv_has ls nL lv) (hk : lv[k]? = some (i, .int (nZ a))) (hn : i < nL) (hl : (i, Value.int (nZ v)) :: lv.filter (fun q => !(q.1 == i) && !(q.1 + 1 == i && q.2.category == 2)) = lv')
    (kk : ∀ ls' : Array Slot, lv_has ls' nL lv' → W p l e R s m args below meth c H locs cells slots Q (F0 m (pc + 3) ls' rest)) : W p l e R s m args below meth c H locs cells slots Q (F0 m pc ls rest) := by
  subst he
  exact lv_iinc hx hb hdg h hk (nZ_add a n) hn hl kk
theorem z_ldc {own : String} {index : Nat} {v : Int} {n : Int32} (hx : p.tables.exec = Jvm.exec) (hb : c.code = cc) (hown : s.vm.findClass own = some m.cls) (hconst : (Jvm.Cond.constant own index n).before args s = true) (hv : n = nZ v) (hdg : decode cc pc = .ok (.ldc index, 2)) (kk : W p l e R s m args below meth c H locs cells slots Q (F0 m (pc + 2) ls (.int (nZ v) :: rest))) : W p l e R s m args below meth c H locs cells slots Q (F0 m pc ls rest) := by
  subst hv
  exact lv_ldc hx hb hown hconst hdg kk
theorem z_ldc2 {own : String} {index : Nat} {v : Int} {n : Int64} (hx : p.tables.exec = Jvm.exec) (hb : c.code = cc) (hown : s.vm.findClass own = some m.cls) (hconst : (Jvm.Cond.constantLong own index n).before args s = true) (hv : n = nY v) (hdg : decode cc pc = .ok (.ldc2_w index, 3)) (kk : W p l e R s m args below meth c H locs cells slots Q (F0 m (pc + 3) ls (.long (nY v) :: rest))) : W p l e R s m args below meth c H locs cells slots Q (F0 m pc ls rest) := by
  subst hv
  exact lv_ldc2 hx hb hown hconst hdg kk
theorem z_lconst {n : Fin 2} (hx : p.tables.exec = Jvm.exec) (hb : c.code = cc) (hdg : decode cc pc = .ok (.lconst n, 1)) (kk : W p l e R s m args below meth c H locs cells slots Q (F0 m (pc + 1) ls (.long (nY ((n : Nat) : Int)) :: rest))) : W p l e R s m args below meth c H locs cells slots Q (F0 m pc ls rest) :=
  lv_lconst hx hb hdg rfl kk
theorem z_i2l {a : Int} (hx : p.tables.exec = Jvm.exec) (hb : c.code = cc) (h : zR a) (hdg : decode cc pc = .ok (.i2l, 1)) (kk : W p l e R s m args below meth c H locs cells slots Q (F0 m (pc + 1) ls (.long (nY a) :: rest))) : W p l e R s m args below meth c H locs cells slots Q (F0 m pc ls (.int (nZ a) :: rest)) :=
  lv_i2l hx hb hdg (Int64.toInt_inj.mp (by rw [Int32.toInt_toInt64, nZ_toInt h, nY_toInt ⟨by have := h.1; omega, by have := h.2; omega⟩])) kk
theorem z_l2i {a : Int} (hx : p.tables.exec = Jvm.exec) (hb : c.code = cc) (hdg : decode cc pc = .ok (.l2i, 1)) (kk : W p l e R s m args below meth c H locs cells slots Q (F0 m (pc + 1) ls (.int (nZ (zI a)) :: rest))) : W p l e R s m args below meth c H locs cells slots Q (F0 m pc ls (.long (nY a) :: rest)) :=
  lv_l2i hx hb hdg (by show (Int64.ofInt a).toInt32 = Int32.ofInt (Int32.ofInt a).toInt; rw [Int64.toInt32_ofInt, Int32.ofInt_toInt]) kk
theorem z_i2b {a : Int} (hx : p.tables.exec = Jvm.exec) (hb : c.code = cc) (hdg : decode cc pc = .ok (.i2b, 1)) (kk : W p l e R s m args below meth c H locs cells slots Q (F0 m (pc + 1) ls (.int (nZ (zB a)) :: rest))) : W p l e R s m args below meth c H locs cells slots Q (F0 m pc ls (.int (nZ a) :: rest)) :=
  lv_i2b hx hb hdg (by show (Int32.ofInt a).toInt8.toInt32 = Int32.ofInt (Int8.ofInt a).toInt; rw [Int32.toInt8_ofInt, Int32.ofInt_int8ToInt]) kk
theorem z_i2s {a : Int} (hx : p.tables.exec = Jvm.exec) (hb : c.code = cc) (hdg : decode cc pc = .ok (.i2s, 1)) (kk : W p l e R s m args below meth c H locs cells slots Q (F0 m (pc + 1) ls (.int (nZ (zS a)) :: rest))) : W p l e R s m args below meth c H locs cells slots Q (F0 m pc ls (.int (nZ a) :: rest)) :=
  lv_i2s hx hb hdg (by show (Int32.ofInt a).toInt16.toInt32 = Int32.ofInt (Int16.ofInt a).toInt; rw [Int32.toInt16_ofInt, Int32.ofInt_int16ToInt]) kk
theorem nZ_ne0 {b : Int} (h : 0 < b ∧ b ≤ 2147483647) : ¬ nZ b = 0 := fun q => by
  have := (nZ_eq (a := b) (b := 0) ⟨by omega, by omega⟩ (by decide)).mp q
  omega
theorem nZ_div {a b : Int} (ha : 0 ≤ a ∧ a ≤ 2147483647) (hb : 0 < b ∧ b ≤ 2147483647) : nZ a / nZ b = nZ (a / b) := by
  have h : nZ (Int.tdiv a b) = nZ a / nZ b := Int32.ofInt_tdiv (by show (-2147483648 : Int) ≤ a; omega) (by show a ≤ (2147483647 : Int); omega) (by show (-2147483648 : Int) ≤ b; omega) (by show b ≤ (2147483647 : Int); omega)
  rw [← h, Int.tdiv_eq_ediv_of_nonneg ha.1]
theorem z_idiv {a b : Int} (hx : p.tables.exec = Jvm.exec) (hb : c.code = cc) (ha : 0 ≤ a ∧ a ≤ 2147483647) (hb2 : 0 < b ∧ b ≤ 2147483647) (hdg : decode cc pc = .ok (.idiv, 1)) (kk : W p l e R s m args below meth c H locs cells slots Q (F0 m (pc + 1) ls (.int (nZ (a / b)) :: rest))) : W p l e R s m args below meth c H locs cells slots Q (F0 m pc ls (.int (nZ b) :: .int (nZ a) :: rest)) :=
  lv_idiv hx hb hdg (nZ_ne0 hb2) (by rw [nZ_div ha hb2]; exact kk)
theorem z_irem {a b : Int} (hx : p.tables.exec = Jvm.exec) (hb : c.code = cc) (ha : 0 ≤ a ∧ a ≤ 2147483647) (hb2 : 0 < b ∧ b ≤ 2147483647) (hdg : decode cc pc = .ok (.irem, 1)) (kk : W p l e R s m args below meth c H locs cells slots Q (F0 m (pc + 1) ls (.int (nZ (a % b)) :: rest))) : W p l e R s m args below meth c H locs cells slots Q (F0 m pc ls (.int (nZ b) :: .int (nZ a) :: rest)) :=
  lv_irem hx hb hdg (nZ_ne0 hb2) (by
    rw [nZ_div ha hb2, nZ_mul, nZ_sub, show a - a / b * b = a % b by have := Int.emod_add_mul_ediv a b; rw [Int.mul_comm] at this; omega]
    exact kk)
theorem nY_lt {a b : Int} (ha : zRL a) (hb : zRL b) : nY a < nY b ↔ a < b := by rw [Int64.lt_iff_toInt_lt, nY_toInt ha, nY_toInt hb]
theorem nY_eq {a b : Int} (ha : zRL a) (hb : zRL b) : nY a = nY b ↔ a = b := ⟨fun h => by rw [← nY_toInt ha, ← nY_toInt hb, h], fun h => by rw [h]⟩
theorem lg_cmp0 {a b : Int} (ha : zRL a) (hb : zRL b) : lg_cmp (nY a) (nY b) = 0 ↔ a = b := by
  rw [← nY_eq ha hb]
  unfold lg_cmp
  by_cases h1 : nY b < nY a
  · rw [if_pos h1]
    refine ⟨fun h => absurd h (by decide), fun h => ?_⟩
    rw [h] at h1
    exact absurd h1 (by rw [Int64.lt_iff_toInt_lt]; omega)
  · rw [if_neg h1]
    by_cases h2 : nY a = nY b
    · rw [if_pos h2]
      exact ⟨fun _ => h2, fun _ => rfl⟩
    · rw [if_neg h2]
      exact ⟨fun h => absurd h (by decide), fun h => absurd h h2⟩
theorem z_lcmp_eq {a b : Int} (hx : p.tables.exec = Jvm.exec) (hb : c.code = cc) (ha : zRL a) (hb2 : zRL b) {off : Int} {tgt : Nat} (hd1 : decode cc pc = .ok (.lcmp, 1)) (hd2 : decode cc (pc + 1) = .ok (.ifCond .eq off, 3)) (ht : ((pc + 1 : Nat) : Int) + off = (tgt : Int))
    (kt : a = b → W p l e R s m args below meth c H locs cells slots Q (F0 m tgt ls rest)) (kf : ¬ a = b → W p l e R s m args below meth c H locs cells slots Q (F0 m (pc + 1 + 3) ls rest)) : W p l e R s m args below meth c H locs cells slots Q (F0 m pc ls (.long (nY b) :: .long (nY a) :: rest)) :=
  W.lcmp hx hb hd1 (lv_if_eq hx hb hd2 ht (fun h => kt ((lg_cmp0 ha hb2).mp h)) (fun h => kf (fun q => h ((lg_cmp0 ha hb2).mpr q))))
theorem z_lcmp_ne {a b : Int} (hx : p.tables.exec = Jvm.exec) (hb : c.code = cc) (ha : zRL a) (hb2 : zRL b) {off : Int} {tgt : Nat} (hd1 : decode cc pc = .ok (.lcmp, 1)) (hd2 : decode cc (pc + 1) = .ok (.ifCond .ne off, 3)) (ht : ((pc + 1 : Nat) : Int) + off = (tgt : Int))
    (kt : ¬ a = b → W p l e R s m args below meth c H locs cells slots Q (F0 m tgt ls rest)) (kf : a = b → W p l e R s m args below meth c H locs cells slots Q (F0 m (pc + 1 + 3) ls rest)) : W p l e R s m args below meth c H locs cells slots Q (F0 m pc ls (.long (nY b) :: .long (nY a) :: rest)) :=
  W.lcmp hx hb hd1 (lv_if_ne hx hb hd2 ht (fun h => kt (fun q => h ((lg_cmp0 ha hb2).mpr q))) (fun h => kf ((lg_cmp0 ha hb2).mp h)))
theorem z_tableOut {a : Int} (hx : p.tables.exec = Jvm.exec) (hb : c.code = cc) (ha : zR a) {dflt lo hi : Int} {offs : Array Int} {len tgt : Nat} (h : a < lo ∨ hi < a) (hdg : decode cc pc = .ok (.tableswitch dflt lo hi offs, len)) (ht : (pc : Int) + dflt = (tgt : Int))
    (kk : W p l e R s m args below meth c H locs cells slots Q (F0 m tgt ls rest)) : W p l e R s m args below meth c H locs cells slots Q (F0 m pc ls (.int (nZ a) :: rest)) :=
  lv_tableOut hx hb hdg (by rw [nZ_toInt ha]; exact h) ht kk
theorem z_tableIn {a v : Int} (hx : p.tables.exec = Jvm.exec) (hb : c.code = cc) (h : a = v) (hv : zR v) {dflt lo hi off : Int} {offs : Array Int} {len tgt : Nat} (hdg : decode cc pc = .ok (.tableswitch dflt lo hi offs, len)) (h1 : ¬ v < lo) (h2 : ¬ hi < v) (ho : offs[(v - lo).toNat]? = some off) (ht : (pc : Int) + off = (tgt : Int))
    (kk : W p l e R s m args below meth c H locs cells slots Q (F0 m tgt ls rest)) : W p l e R s m args below meth c H locs cells slots Q (F0 m pc ls (.int (nZ a) :: rest)) := by
  subst h
  exact lv_tableIn hx hb hdg (by rw [nZ_toInt hv]; exact h1) (by rw [nZ_toInt hv]; exact h2) (by rw [nZ_toInt hv]; exact ho) ht kk
theorem z_lookIn {a v : Int} (hx : p.tables.exec = Jvm.exec) (hb : c.code = cc) (h : a = v) (hv : zR v) {dflt off : Int} {ps : Array (Int × Int)} {len tgt : Nat} (hdg : decode cc pc = .ok (.lookupswitch dflt ps, len)) (hp : (ps.toList.zip (ps.toList.drop 1)).all (fun (a, next) => a.1 < next.1) = true) (ho : Op.lookupswitch.offset ps.toList dflt v = off) (ht : (pc : Int) + off = (tgt : Int))
    (kk : W p l e R s m args below meth c H locs cells slots Q (F0 m tgt ls rest)) : W p l e R s m args below meth c H locs cells slots Q (F0 m pc ls (.int (nZ a) :: rest)) := by
  subst h
  exact lv_lookup hx hb hdg hp (by rw [nZ_toInt hv]; exact ho) ht kk
theorem z_lookOut2 {a k1 k2 : Int} (hx : p.tables.exec = Jvm.exec) (hb : c.code = cc) (ha : zR a) (h1 : ¬ a = k1) (h2 : ¬ a = k2) (hk1 : zR k1) (hk2 : zR k2) {dflt o1 o2 : Int} {len tgt : Nat} (hdg : decode cc pc = .ok (.lookupswitch dflt #[(k1, o1), (k2, o2)], len)) (hp : ((#[(k1, o1), (k2, o2)] : Array (Int × Int)).toList.zip ((#[(k1, o1), (k2, o2)] : Array (Int × Int)).toList.drop 1)).all (fun (a, next) => a.1 < next.1) = true) (ht : (pc : Int) + dflt = (tgt : Int))
    (kk : W p l e R s m args below meth c H locs cells slots Q (F0 m tgt ls rest)) : W p l e R s m args below meth c H locs cells slots Q (F0 m pc ls (.int (nZ a) :: rest)) := by
  refine lv_lookup hx hb hdg hp ?_ ht kk
  show Op.lookupswitch.offset [(k1, o1), (k2, o2)] dflt (nZ a).toInt = dflt
  rw [lv_osw (k := nZ k1) (fun q => h1 ((nZ_eq ha hk1).mp q)) (nZ_toInt hk1), lv_osw (k := nZ k2) (fun q => h2 ((nZ_eq ha hk2).mp q)) (nZ_toInt hk2)]
  rfl
end ZB2
section ZR2
variable {p : Program} {l : Launch} {e : Env} {R : Room} {s : State} {m : MethodId} {args : Array Value} {below : List Frame} {meth : Method} {c : Code} {H : Heap} {locs : List Loc} {cells slots : Nat} {Q : State → Prop}
variable {cc : ByteArray} {pc nL : Nat} {ls : Array Slot} {rest st : List Value} {D : va_G} {cs : Nat → ClassId} {own : String} {Ts : List Cond} {L : List zD} {α : Nat → Nat} {M M1 : zM} {A : Nat → Prop}
variable {y : MethodName} {bytes : ByteArray} {maxL index nn : Nat} {ret : Option FieldType} {ws : List Cond} {rm : Room} {As : List Value} {C : String}
theorem z_min {a b : Int} (hX : zX p s m args c cc nL D cs own Ts) (hls : ls.size = nL) (hlink : (Cond.methodLink own index Lib.Math.min.name).before args s = true) (hstat : (Cond.static Lib.Math.min.name).before args s = true) (hini : (Cond.initialized "java/lang/Math").before args s = true) (hcode : (Cond.code Lib.Math.min.name Lib.Math.min.code 2 (some .int)).before args s = true)
    (hframes : 1 ≤ R.frames) (hlocals : (rest.map fun v => v.category).sum + 13 ≤ R.locals) (ha : zR a) (hb2 : zR b) (hdg : decode cc pc = .ok (.invokestatic index, 3))
    (kk : W p l e R s m args below meth c H locs 0 0 Q (F0 m (pc + 3) ls (.int (nZ (zmin a b)) :: rest))) : W p l e R s m args below meth c H locs 0 0 Q (F0 m pc ls (.int (nZ b) :: .int (nZ a) :: rest)) := by
  obtain ⟨⟨hx, hb, hml, hown, hts⟩, hK⟩ := hX
  refine va_mmin hx hb (hml.trans hls.symm) hown hlink hstat hini hcode hframes hlocals (Nat.zero_le _) (Nat.zero_le _) hdg ?_
  have e : (if nZ b < nZ a then nZ b else nZ a) = nZ (zmin a b) := by
    unfold zmin
    by_cases h : b < a
    · rw [if_pos h, if_pos ((nZ_lt hb2 ha).mpr h)]
    · rw [if_neg h, if_neg (fun q => h ((nZ_lt hb2 ha).mp q))]
  rw [e]
  exact kk
theorem z_max {a b : Int} (hX : zX p s m args c cc nL D cs own Ts) (hls : ls.size = nL) (hlink : (Cond.methodLink own index Lib.Math.max.name).before args s = true) (hstat : (Cond.static Lib.Math.max.name).before args s = true) (hini : (Cond.initialized "java/lang/Math").before args s = true) (hcode : (Cond.code Lib.Math.max.name Lib.Math.max.code 2 (some .int)).before args s = true)
    (hframes : 1 ≤ R.frames) (hlocals : (rest.map fun v => v.category).sum + 13 ≤ R.locals) (ha : zR a) (hb2 : zR b) (hdg : decode cc pc = .ok (.invokestatic index, 3))
    (kk : W p l e R s m args below meth c H locs 0 0 Q (F0 m (pc + 3) ls (.int (nZ (zmax a b)) :: rest))) : W p l e R s m args below meth c H locs 0 0 Q (F0 m pc ls (.int (nZ b) :: .int (nZ a) :: rest)) := by
  obtain ⟨⟨hx, hb, hml, hown, hts⟩, hK⟩ := hX
  refine va_mmax hx hb (hml.trans hls.symm) hown hlink hstat hini hcode hframes hlocals (Nat.zero_le _) (Nat.zero_le _) hdg ?_
  have e : (if nZ a < nZ b then nZ b else nZ a) = nZ (zmax a b) := by
    unfold zmax
    by_cases h : a < b
    · rw [if_pos h, if_pos ((nZ_lt ha hb2).mpr h)]
    · rw [if_neg h, if_neg (fun q => h ((nZ_lt ha hb2).mp q))]
  rw [e]
  exact kk
theorem z_copyi (hX : zX p s m args c cc nL D cs own Ts) (hH : zH D cs L α M A s H locs) (hls : ls.size = nL) (k0 k1 : Nat) {n0 n1 : Nat} {sp dp n : Int} {i0 i1 nx : Nat} (eM : M1 = zcp M k0 k1 i0 i1 nx) (hd0 : L[k0]? = some (1, n0, [])) (hd1 : L[k1]? = some (1, n1, []))
    (hlink : (Cond.methodLink own index arraycopyName).before args s = true) (hnat : (Cond.native arraycopyName).before args s = true) (hstat : (Cond.static arraycopyName).before args s = true) (hini : (Cond.initialized "java/lang/System").before args s = true)
    (hg : 0 ≤ sp ∧ 0 ≤ dp ∧ 0 ≤ n ∧ sp + n ≤ (n0 : Int) ∧ dp + n ≤ (n1 : Int)) (hn0 : n0 ≤ 2147483647) (hn1 : n1 ≤ 2147483647) (hframes : 1 ≤ R.frames) (hlocals : (rest.map fun v => v.category).sum + (nativeFrameWords "java/lang/System" "arraycopy" 5 + 11) ≤ R.locals) (hdg : decode cc pc = .ok (.invokestatic index, 3))
    (kk : ∀ (H1 : Heap) (locs1 : List Loc), zH D cs L α M1 A s H1 locs1 → W p l e R s m args below meth c H1 locs1 cells slots Q (F0 m (pc + 3) ls rest))
    (hi0 : i0 = sp.toNat := by rfl) (hi1 : i1 = dp.toNat := by rfl) (hnx : nx = n.toNat := by rfl) : W p l e R s m args below meth c H locs cells slots Q (F0 m pc ls (.int (nZ n) :: .int (nZ dp) :: .ref (α k1) :: .int (nZ sp) :: .ref (α k0) :: rest)) := by
  subst hi0 hi1 hnx
  obtain ⟨⟨hx, hb, hml, hown, hts⟩, hK⟩ := hX
  obtain ⟨g1, g2, g3, g4, g5⟩ := hg
  have e1 : (nZ sp).toNatClampNeg = sp.toNat := nZ_clamp g1 (by omega)
  have e2 : (nZ dp).toNatClampNeg = dp.toNat := nZ_clamp g2 (by omega)
  have e3 : (nZ n).toNatClampNeg = n.toNat := nZ_clamp g3 (by omega)
  have nn : ∀ {a : Int}, 0 ≤ a → a ≤ 2147483647 → ¬ nZ a < 0 := fun {a} h h2 q => by
    have := (nZ_lt (a := a) (b := 0) ⟨by omega, h2⟩ (by decide)).mp q
    omega
  refine va_copyi (f := fun b => nZ (M k0 b)) (g := fun b => nZ (M k1 b)) (n0 := n0) (n1 := n1) (ty := .int) hx hb (hml.trans hls.symm) hown hlink hnat hstat hini hK hH.1 hH.2.1 hH.2.2 k0 k1 0 0 (zw_at hd0) (zw_at hd1) rfl rfl rfl (nn g1 (by omega)) (nn g2 (by omega)) (nn g3 (by omega)) (by rw [e1, e3]; omega) (by rw [e2, e3]; omega) (fun i _ => rfl) hframes hlocals hdg (fun H1 locs1 hP hD hS => kk H1 locs1 ⟨?_, zH_same hH.2.1, hS⟩)
  rw [e1, e2, e3] at hP
  have hset : (zw cs L α M).set k1 (α k1, .inl (cs 0, n1, .inl (va_cpy (fun b => nZ (M k0 b)) (fun b => nZ (M k1 b)) sp.toNat dp.toNat n.toNat))) = zw cs L α M1 := by
    refine zw_set hd1 (fun k' hk' => by rw [eM]; exact zcp_ne hk') ?_
    show _ = (.inl (cs 0, n1, .inl (fun b => nZ (M1 k1 b))) : va_E)
    have : va_cpy (fun b => nZ (M k0 b)) (fun b => nZ (M k1 b)) sp.toNat dp.toNat n.toNat = fun b => nZ (M1 k1 b) := by
      funext b
      rw [eM]
      unfold va_cpy zcp
      by_cases hb : dp.toNat ≤ b ∧ b < dp.toNat + n.toNat
      · rw [if_pos hb, if_pos ⟨rfl, hb.1, hb.2⟩]
      · rw [if_neg hb, if_neg (fun q => hb q.2)]
    rw [this]
  rw [← hset]
  exact hP
theorem z_copyl (hX : zX p s m args c cc nL D cs own Ts) (hH : zH D cs L α M A s H locs) (hls : ls.size = nL) (k0 k1 : Nat) {n0 n1 : Nat} {sp dp n : Int} {i0 i1 nx : Nat} (eM : M1 = zcp M k0 k1 i0 i1 nx) (hd0 : L[k0]? = some (2, n0, [])) (hd1 : L[k1]? = some (2, n1, []))
    (hlink : (Cond.methodLink own index arraycopyName).before args s = true) (hnat : (Cond.native arraycopyName).before args s = true) (hstat : (Cond.static arraycopyName).before args s = true) (hini : (Cond.initialized "java/lang/System").before args s = true)
    (hg : 0 ≤ sp ∧ 0 ≤ dp ∧ 0 ≤ n ∧ sp + n ≤ (n0 : Int) ∧ dp + n ≤ (n1 : Int)) (hn0 : n0 ≤ 2147483647) (hn1 : n1 ≤ 2147483647) (hframes : 1 ≤ R.frames) (hlocals : (rest.map fun v => v.category).sum + (nativeFrameWords "java/lang/System" "arraycopy" 5 + 11) ≤ R.locals) (hdg : decode cc pc = .ok (.invokestatic index, 3))
    (kk : ∀ (H1 : Heap) (locs1 : List Loc), zH D cs L α M1 A s H1 locs1 → W p l e R s m args below meth c H1 locs1 cells slots Q (F0 m (pc + 3) ls rest))
    (hi0 : i0 = sp.toNat := by rfl) (hi1 : i1 = dp.toNat := by rfl) (hnx : nx = n.toNat := by rfl) : W p l e R s m args below meth c H locs cells slots Q (F0 m pc ls (.int (nZ n) :: .int (nZ dp) :: .ref (α k1) :: .int (nZ sp) :: .ref (α k0) :: rest)) := by
  subst hi0 hi1 hnx
  obtain ⟨⟨hx, hb, hml, hown, hts⟩, hK⟩ := hX
  obtain ⟨g1, g2, g3, g4, g5⟩ := hg
  have e1 : (nZ sp).toNatClampNeg = sp.toNat := nZ_clamp g1 (by omega)
  have e2 : (nZ dp).toNatClampNeg = dp.toNat := nZ_clamp g2 (by omega)
  have e3 : (nZ n).toNatClampNeg = n.toNat := nZ_clamp g3 (by omega)
  have nn : ∀ {a : Int}, 0 ≤ a → a ≤ 2147483647 → ¬ nZ a < 0 := fun {a} h h2 q => by
    have := (nZ_lt (a := a) (b := 0) ⟨by omega, h2⟩ (by decide)).mp q
    omega
  refine va_copyl (f := fun b => nY (M k0 b)) (g := fun b => nY (M k1 b)) (n0 := n0) (n1 := n1) (ty := .long) hx hb (hml.trans hls.symm) hown hlink hnat hstat hini hK hH.1 hH.2.1 hH.2.2 k0 k1 1 1 (zw_at hd0) (zw_at hd1) rfl rfl rfl (nn g1 (by omega)) (nn g2 (by omega)) (nn g3 (by omega)) (by rw [e1, e3]; omega) (by rw [e2, e3]; omega) (fun i _ => rfl) hframes hlocals hdg (fun H1 locs1 hP hD hS => kk H1 locs1 ⟨?_, zH_same hH.2.1, hS⟩)
  rw [e1, e2, e3] at hP
  have hset : (zw cs L α M).set k1 (α k1, .inl (cs 1, n1, .inr (.inl (va_cpy (fun b => nY (M k0 b)) (fun b => nY (M k1 b)) sp.toNat dp.toNat n.toNat)))) = zw cs L α M1 := by
    refine zw_set hd1 (fun k' hk' => by rw [eM]; exact zcp_ne hk') ?_
    show _ = (.inl (cs 1, n1, .inr (.inl (fun b => nY (M1 k1 b)))) : va_E)
    have : va_cpy (fun b => nY (M k0 b)) (fun b => nY (M k1 b)) sp.toNat dp.toNat n.toNat = fun b => nY (M1 k1 b) := by
      funext b
      rw [eM]
      unfold va_cpy zcp
      by_cases hb : dp.toNat ≤ b ∧ b < dp.toNat + n.toNat
      · rw [if_pos hb, if_pos ⟨rfl, hb.1, hb.2⟩]
      · rw [if_neg hb, if_neg (fun q => hb q.2)]
    rw [this]
  rw [← hset]
  exact hP
/-! calls in the same world -/
theorem z_preV0 (hX : zX p s m args c cc nL D cs own Ts) (hH : zH D cs L α M A s H locs) {k ci : Nat} {fs : List Nat} {T : u_T} {N : Nat} (hd : L[k]? = some (0, ci, fs)) (hc : vwCl[ci]? = some (C, T, N)) : PreV s H C (α k) (zPre D cs L α M (.ref (α k) :: As)) As :=
  ⟨zPre_blind, va_recv (q := (C, T, N)) hX.2 hH.1 hc (zw_at hd), fun U hU hW => ⟨rfl, by rw [hU]; exact hH.1, va_K.moved hW.alike hX.2, hH.2.1.weaken (fun _ _ _ _ => trivial)⟩⟩
theorem zA_in (hH : zH D cs L α M A s H locs) : ∀ q, zA L.length α q → A q := by
  rintro q ⟨k, hk, rfl⟩
  obtain ⟨d, hd⟩ : ∃ d, L[k]? = some d := ⟨_, List.getElem?_eq_getElem hk⟩
  exact hH.2.1.2 k _ (zw_at hd)
theorem z_sameVi {r : Int} (hX : zX p s m args c cc nL D cs own Ts) (hH : zH D cs L α M A s H locs) (k ci : Nat) {fs : List Nat} {T : u_T} {N : Nat} (hM : Met l y ws rm (zPre D cs L α M (.ref (α k) :: As)) (zQi D cs L α r M1) 0 0 (zA L.length α))
    (cw : CallW R s args own C index y bytes maxL ret ws rm 0 0 nn) (hd : L[k]? = some (0, ci, fs)) (hc : vwCl[ci]? = some (C, T, N)) (hn : As.length = nn) (hls : ls.size = nL) (hW : (rest.map fun v => v.category).sum ≤ 8) (hst : st = As.reverse ++ .ref (α k) :: rest) (hdg : decode cc pc = .ok (.invokevirtual index, 3)) (hf : cells ≤ R.cells ∧ slots ≤ R.slots)
    (kk : ∀ (H1 : Heap) (locs1 : List Loc), zH D cs L α M1 A s H1 locs1 → W p l e R s m args below meth c H1 locs1 cells slots Q (F0 m (pc + 3) ls (.int (nZ r) :: rest))) : W p l e R s m args below meth c H locs cells slots Q (F0 m pc ls st) := by
  refine va_calli (va_runV (As := As) (rest := rest) hX.1 hM cw (z_preV0 hX hH hd hc) rfl hn hls hst (lv_room hW) hdg hf) hH.2.2 (fun q _ h => zA_in hH q h) (zA_in hH) (fun x u t H1 locs1 ht hvm hp hB hz hk hS => ?_)
  subst hp
  rw [ht] at hB
  exact kk H1 locs1 ⟨hB, zH_same hH.2.1, hS⟩
theorem z_sameVl {r : Int} (hX : zX p s m args c cc nL D cs own Ts) (hH : zH D cs L α M A s H locs) (k ci : Nat) {fs : List Nat} {T : u_T} {N : Nat} (hM : Met l y ws rm (zPre D cs L α M (.ref (α k) :: As)) (zQl D cs L α r M1) 0 0 (zA L.length α))
    (cw : CallW R s args own C index y bytes maxL ret ws rm 0 0 nn) (hd : L[k]? = some (0, ci, fs)) (hc : vwCl[ci]? = some (C, T, N)) (hn : As.length = nn) (hls : ls.size = nL) (hW : (rest.map fun v => v.category).sum ≤ 8) (hst : st = As.reverse ++ .ref (α k) :: rest) (hdg : decode cc pc = .ok (.invokevirtual index, 3)) (hf : cells ≤ R.cells ∧ slots ≤ R.slots)
    (kk : ∀ (H1 : Heap) (locs1 : List Loc), zH D cs L α M1 A s H1 locs1 → W p l e R s m args below meth c H1 locs1 cells slots Q (F0 m (pc + 3) ls (.long (nY r) :: rest))) : W p l e R s m args below meth c H locs cells slots Q (F0 m pc ls st) := by
  refine va_calll (va_runV (As := As) (rest := rest) hX.1 hM cw (z_preV0 hX hH hd hc) rfl hn hls hst (lv_room hW) hdg hf) hH.2.2 (fun q _ h => zA_in hH q h) (zA_in hH) (fun x u t H1 locs1 ht hvm hp hB hz hk hS => ?_)
  subst hp
  rw [ht] at hB
  exact kk H1 locs1 ⟨hB, zH_same hH.2.1, hS⟩
theorem z_sameVv (hX : zX p s m args c cc nL D cs own Ts) (hH : zH D cs L α M A s H locs) (k ci : Nat) {fs : List Nat} {T : u_T} {N : Nat} (hM : Met l y ws rm (zPre D cs L α M (.ref (α k) :: As)) (zQv D cs L α M1) 0 0 (zA L.length α))
    (cw : CallW R s args own C index y bytes maxL ret ws rm 0 0 nn) (hd : L[k]? = some (0, ci, fs)) (hc : vwCl[ci]? = some (C, T, N)) (hn : As.length = nn) (hls : ls.size = nL) (hW : (rest.map fun v => v.category).sum ≤ 8) (hst : st = As.reverse ++ .ref (α k) :: rest) (hdg : decode cc pc = .ok (.invokevirtual index, 3)) (hf : cells ≤ R.cells ∧ slots ≤ R.slots)
    (kk : ∀ (H1 : Heap) (locs1 : List Loc), zH D cs L α M1 A s H1 locs1 → W p l e R s m args below meth c H1 locs1 cells slots Q (F0 m (pc + 3) ls rest)) : W p l e R s m args below meth c H locs cells slots Q (F0 m pc ls st) := by
  refine va_callv (va_runV (As := As) (rest := rest) hX.1 hM cw (z_preV0 hX hH hd hc) rfl hn hls hst (lv_room hW) hdg hf) hH.2.2 (fun q _ h => zA_in hH q h) (zA_in hH) (fun u t H1 locs1 ht hvm hp hB hz hk hS => ?_)
  rw [ht] at hB
  exact kk H1 locs1 ⟨hB, zH_same hH.2.1, hS⟩
theorem z_iretP {r v : Int} {ty : FieldType} (hX : zX p s m args c cc nL D cs own Ts) (hr : meth.sig.returnType = some ty) (hlocks : meth.locks = false) (hH : zH D cs L α M (zA L.length α) s H locs) (hF : some v = some r) (hn : narrow ty (.int (nZ v)) = .int (nZ v)) (hdg : decode cc pc = .ok (.ireturn, 1)) : W p l e R s m args below meth c H locs cells slots (MQ below (zQi D cs L α r M) args s cells slots (zA L.length α)) (F0 m pc ls [.int (nZ v)]) := by
  cases hF
  exact z_iret hX hr hlocks hH rfl hn hdg
theorem z_lretP {r v : Int} (hX : zX p s m args c cc nL D cs own Ts) (hr : meth.sig.returnType = some .long) (hlocks : meth.locks = false) (hH : zH D cs L α M (zA L.length α) s H locs) (hF : some v = some r) (hdg : decode cc pc = .ok (.lreturn, 1)) : W p l e R s m args below meth c H locs cells slots (MQ below (zQl D cs L α r M) args s cells slots (zA L.length α)) (F0 m pc ls [.long (nY v)]) := by
  cases hF
  exact z_lret hX hr hlocks hH rfl hdg
end ZR2
def zxor (a b : Int) : Int := (nZ a ^^^ nZ b).toInt
theorem z_ixor {p : Program} {l : Launch} {e : Env} {R : Room} {s : State} {m : MethodId} {args : Array Value} {below : List Frame} {meth : Method} {c : Code} {H : Heap} {locs : List Loc} {cells slots : Nat} {Q : State → Prop} {cc : ByteArray} {pc : Nat} {ls : Array Slot} {rest : List Value} {a b : Int} (hx : p.tables.exec = Jvm.exec) (hb : c.code = cc) (hdg : decode cc pc = .ok (.ixor, 1)) (kk : W p l e R s m args below meth c H locs cells slots Q (F0 m (pc + 1) ls (.int (nZ (zxor a b)) :: rest))) : W p l e R s m args below meth c H locs cells slots Q (F0 m pc ls (.int (nZ b) :: .int (nZ a) :: rest)) :=
  lv_ixor hx hb hdg (by rw [show nZ (zxor a b) = nZ a ^^^ nZ b from nZ_of _] at kk; exact kk)
