/-! rows for the law's body: two worlds, one of each side, and the script -/
def yW (D : va_G) (cs : Nat → ClassId) (La Lb : List zD) (αa αb : Nat → Nat) (Ma Mb : zM) (A : Nat → Prop) (s : State) (H : Heap) (locs : List Loc) : Prop :=
  va_P D vwCl (zw cs La αa Ma) H ∧ va_P D vwCl (zw cs Lb αb Mb) H ∧ va_D A (zw cs La αa Ma) ∧ va_D A (zw cs Lb αb Mb) ∧ (∀ i j, i < La.length → j < Lb.length → αa i ≠ αb j) ∧ va_S A s.heap H locs
theorem xR (x : Int32) : zR x.toInt := by
  have h1 := x.le_toInt
  have h2 := x.toInt_lt
  constructor <;> omega
theorem xRL (x : Int64) : zRL x.toInt := by
  have h1 := x.le_toInt
  have h2 := x.toInt_lt
  constructor <;> omega
theorem zA_D {D : va_G} {cs : Nat → ClassId} {L : List zD} {α : Nat → Nat} {M : zM} {A : Nat → Prop} (hD : va_D A (zw cs L α M)) : ∀ q, zA L.length α q → A q := by
  rintro q ⟨k, hk, rfl⟩
  exact hD.2 k _ (zw_at (List.getElem?_eq_getElem hk))
section YLR
variable {p : Program} {l : Launch} {e : Env} {R : Room} {s : State} {m : MethodId} {args : Array Value} {below : List Frame} {meth : Method} {c : Code} {H : Heap} {locs : List Loc} {cells slots : Nat} {Q : State → Prop}
variable {cc : ByteArray} {pc nL : Nat} {ls : Array Slot} {rest st : List Value} {D : va_G} {cs : Nat → ClassId} {own : String} {Ts : List Cond} {La Lb : List zD} {αa αb : Nat → Nat} {Ma Mb Ma' : zM} {A : Nat → Prop}
variable {y : MethodName} {bytes : ByteArray} {maxL index nn : Nat} {ret : Option FieldType} {ws : List Cond} {rm : Room} {As : List Value} {C : String}
theorem yW_swap (h : yW D cs La Lb αa αb Ma Mb A s H locs) : yW D cs Lb La αb αa Mb Ma A s H locs :=
  ⟨h.2.1, h.1, h.2.2.2.1, h.2.2.1, fun i j hi hj q => h.2.2.2.2.1 j i hj hi q.symm, h.2.2.2.2.2⟩
theorem yW_pre {ci : Nat} {fs : List Nat} {T : u_T} {N : Nat} (hX : zX p s m args c cc nL D cs own Ts) (hW : yW D cs La Lb αa αb Ma Mb A s H locs) (hd : La[0]? = some (0, ci, fs)) (hc : vwCl[ci]? = some (C, T, N)) : PreV s H C (αa 0) (zPre D cs La αa Ma (.ref (αa 0) :: As)) As :=
  ⟨zPre_blind, va_recv (q := (C, T, N)) hX.2 hW.1 hc (zw_at hd), fun U hU hm => ⟨rfl, by rw [hU]; exact hW.1, va_K.moved hm.alike hX.2, hW.2.2.1.weaken (fun _ _ _ _ => trivial)⟩⟩
theorem yW_back {H1 : Heap} {locs1 : List Loc} (hW : yW D cs La Lb αa αb Ma Mb A s H locs) (hP : va_P D vwCl (zw cs La αa Ma') H1) (hk : ∀ q : Nat, q < H.size → ¬ zA La.length αa q → H1[q]? = H[q]?) (hS : va_S A s.heap H1 locs1) : yW D cs La Lb αa αb Ma' Mb A s H1 locs1 := by
  obtain ⟨h1, h2, h3, h4, h5, h6⟩ := hW
  refine ⟨hP, h2.kept (fun k q hq => hk q.1 ((h2 k q hq).lt) ?_), zH_same h3, h4, h5, hS⟩
  rintro ⟨i, hi, he⟩
  obtain ⟨d, hd, rfl⟩ := zw_of hq
  have he : αb k = αa i := he
  exact h5 i k hi (List.getElem?_eq_some_iff.mp hd).1 he.symm
/-- a call on one side that answers an int -/
theorem yW_i {ci : Nat} {fs : List Nat} {T : u_T} {N : Nat} {r : Int} (hX : zX p s m args c cc nL D cs own Ts) (hW : yW D cs La Lb αa αb Ma Mb A s H locs) (hd : La[0]? = some (0, ci, fs)) (hc : vwCl[ci]? = some (C, T, N)) (hM : Met l y ws rm (zPre D cs La αa Ma (.ref (αa 0) :: As)) (zQi D cs La αa r Ma') 0 0 (zA La.length αa))
    (cw : CallW R s args own C index y bytes maxL ret ws rm 0 0 nn) (hn : As.length = nn) (hls : ls.size = nL) (hWd : (rest.map fun v => v.category).sum ≤ 8) (hst : st = As.reverse ++ .ref (αa 0) :: rest) (hdg : decode cc pc = .ok (.invokevirtual index, 3)) (hf : cells ≤ R.cells ∧ slots ≤ R.slots)
    (kk : ∀ (H1 : Heap) (locs1 : List Loc), yW D cs La Lb αa αb Ma' Mb A s H1 locs1 → W p l e R s m args below meth c H1 locs1 cells slots Q (F0 m (pc + 3) ls (.int (nZ r) :: rest))) : W p l e R s m args below meth c H locs cells slots Q (F0 m pc ls st) := by
  refine va_calli (va_runV (As := As) (rest := rest) hX.1 hM cw (yW_pre hX hW hd hc) rfl hn hls hst (lv_room hWd) hdg hf) hW.2.2.2.2.2 (fun q _ h => zA_D (D := D) hW.2.2.1 q h) (zA_D (D := D) hW.2.2.1) (fun x u t H1 locs1 ht hvm hp hB hz hk hS => ?_)
  subst hp
  rw [ht] at hB
  exact kk H1 locs1 (yW_back hW hB hk hS)
/-- a call on one side that answers a long -/
theorem yW_l {ci : Nat} {fs : List Nat} {T : u_T} {N : Nat} {r : Int} (hX : zX p s m args c cc nL D cs own Ts) (hW : yW D cs La Lb αa αb Ma Mb A s H locs) (hd : La[0]? = some (0, ci, fs)) (hc : vwCl[ci]? = some (C, T, N)) (hM : Met l y ws rm (zPre D cs La αa Ma (.ref (αa 0) :: As)) (zQl D cs La αa r Ma') 0 0 (zA La.length αa))
    (cw : CallW R s args own C index y bytes maxL ret ws rm 0 0 nn) (hn : As.length = nn) (hls : ls.size = nL) (hWd : (rest.map fun v => v.category).sum ≤ 8) (hst : st = As.reverse ++ .ref (αa 0) :: rest) (hdg : decode cc pc = .ok (.invokevirtual index, 3)) (hf : cells ≤ R.cells ∧ slots ≤ R.slots)
    (kk : ∀ (H1 : Heap) (locs1 : List Loc), yW D cs La Lb αa αb Ma' Mb A s H1 locs1 → W p l e R s m args below meth c H1 locs1 cells slots Q (F0 m (pc + 3) ls (.long (nY r) :: rest))) : W p l e R s m args below meth c H locs cells slots Q (F0 m pc ls st) := by
  refine va_calll (va_runV (As := As) (rest := rest) hX.1 hM cw (yW_pre hX hW hd hc) rfl hn hls hst (lv_room hWd) hdg hf) hW.2.2.2.2.2 (fun q _ h => zA_D (D := D) hW.2.2.1 q h) (zA_D (D := D) hW.2.2.1) (fun x u t H1 locs1 ht hvm hp hB hz hk hS => ?_)
  subst hp
  rw [ht] at hB
  exact kk H1 locs1 (yW_back hW hB hk hS)
/-- a number of the script comes -/
theorem ys_ld {b L i k : Nat} {xs : Nat → Int32} {kc : Int} {lv : List (Nat × Value)} (hx : p.tables.exec = Jvm.exec) (hb : c.code = cc) (hX : va_X b L xs s s.heap) (hbl : b < s.heap.size) (hbA : ¬ A b) (hS : va_S A s.heap H locs) (hl : lv_has ls nL lv) (h0 : lv[3]? = some (0, .ref b)) (h3 : lv[0]? = some (3, .int (nZ (i : Int)))) (hik : i + k < L) (hL : L ≤ 3072) (ek : kc = (k : Int))
    (d0 : decode cc pc = .ok (.aload_n 0, 1)) (d1 : decode cc (pc + 1) = .ok (.iload_n 3, 1)) (d2 : decode cc (pc + 2) = .ok (.iconst kc, 1)) (d3 : decode cc (pc + 3) = .ok (.iadd, 1)) (d4 : decode cc (pc + 4) = .ok (.iaload, 1))
    (kk : W p l e R s m args below meth c H locs cells slots Q (F0 m (pc + 5) ls (.int (nZ (xs (i + k)).toInt) :: rest))) : W p l e R s m args below meth c H locs cells slots Q (F0 m pc ls rest) := by
  subst ek
  refine lv_aload_n hx hb d0 rfl (lv_at hl 3 h0) ?_
  refine lv_iload_n hx hb d1 rfl (lv_at hl 0 h3) ?_
  refine z_iconst hx hb d2 ?_
  refine z_iadd hx hb d3 ?_
  refine va_sld hx hb hX hbl hbA hS (nZ_in (n := L) (by omega) (by omega)) d4 ?_
  rw [nZ_cl (n := L) (by omega) (by omega), show ((i : Int) + (k : Int)).toNat = i + k by omega]
  rw [nZ_of] at kk
  exact kk
/-- the script's number that says which call -/
theorem ys_l0 {b L i : Nat} {xs : Nat → Int32} {lv : List (Nat × Value)} (hx : p.tables.exec = Jvm.exec) (hb : c.code = cc) (hX : va_X b L xs s s.heap) (hbl : b < s.heap.size) (hbA : ¬ A b) (hS : va_S A s.heap H locs) (hl : lv_has ls nL lv) (h0 : lv[3]? = some (0, .ref b)) (h3 : lv[0]? = some (3, .int (nZ (i : Int)))) (hik : i < L) (hL : L ≤ 3072)
    (d0 : decode cc pc = .ok (.aload_n 0, 1)) (d1 : decode cc (pc + 1) = .ok (.iload_n 3, 1)) (d4 : decode cc (pc + 2) = .ok (.iaload, 1))
    (kk : W p l e R s m args below meth c H locs cells slots Q (F0 m (pc + 3) ls (.int (xs i) :: rest))) : W p l e R s m args below meth c H locs cells slots Q (F0 m pc ls rest) := by
  refine lv_aload_n hx hb d0 rfl (lv_at hl 3 h0) ?_
  refine lv_iload_n hx hb d1 rfl (lv_at hl 0 h3) ?_
  refine va_sld hx hb hX hbl hbA hS (nZ_in (n := L) (by omega) (by omega)) d4 ?_
  rw [nZ_cl (n := L) (by omega) (by omega), show ((i : Int)).toNat = i by omega]
  exact kk
theorem lg_self (a : Int64) : lg_cmp a a = 0 := by
  unfold lg_cmp
  rw [if_neg (show ¬ a < a by rw [Int64.lt_iff_toInt_lt]; omega), if_pos rfl]
/-- two answers that are the same -/
theorem ys_ieq {r : Int} {off : Int} {tgt : Nat} (hx : p.tables.exec = Jvm.exec) (hb : c.code = cc) (hdg : decode cc pc = .ok (.if_icmp .eq off, 3)) (ht : (pc : Int) + off = (tgt : Int))
    (kk : W p l e R s m args below meth c H locs cells slots Q (F0 m tgt ls rest)) : W p l e R s m args below meth c H locs cells slots Q (F0 m pc ls (.int (nZ r) :: .int (nZ r) :: rest)) :=
  lv_icmp_eq hx hb hdg ht (fun _ => kk) (fun q => absurd rfl q)
theorem ys_leq {r : Int} {off : Int} {tgt : Nat} (hx : p.tables.exec = Jvm.exec) (hb : c.code = cc) (hd1 : decode cc pc = .ok (.lcmp, 1)) (hd2 : decode cc (pc + 1) = .ok (.ifCond .eq off, 3)) (ht : ((pc + 1 : Nat) : Int) + off = (tgt : Int))
    (kk : W p l e R s m args below meth c H locs cells slots Q (F0 m tgt ls rest)) : W p l e R s m args below meth c H locs cells slots Q (F0 m pc ls (.long (nY r) :: .long (nY r) :: rest)) :=
  W.lcmp hx hb hd1 (lv_if_eq hx hb hd2 ht (fun _ => kk) (fun q => absurd (lg_self _) q))
end YLR
