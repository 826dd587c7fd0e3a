/-! the law: the image for the first time, the loop, the beginning -/
section YLI
variable {p : Program} {l : Launch} {e : Env} {s : State} {m : MethodId} {below : List Frame} {meth : Method} {c : Code} {H : Heap} {locs : List Loc} {cells slots : Nat} {Q : State → Prop} {ls : Array Slot} {D : va_G} {cs : Nat → ClassId} {αX αM : Nat → Nat} {MX MM : zM} {A : Nat → Prop} {b L i : Nat} {xs : Nat → Int32} {cI : Int}
set_option maxHeartbeats 4000000 in
set_option maxRecDepth 100000 in
theorem lb_image_f (E : yE p s m c D cs A b L xs i ls αX αM) (hZ : yZ s) (hA : ∀ q, s.heap.size ≤ q → A q) (hW : yW D cs (LX false) LM αX αM MX MM A s H locs) (hI : zInv false cI MX MM) (hf : cells + 21 ≤ room_1.cells ∧ slots + 4067 ≤ room_1.slots)
    (kk : ∀ (β : Nat → Nat) (MX1 MM1 : zM) (H1 : Heap) (locs1 : List Loc), β 0 = αX 0 → yW D cs (LX true) LM β αM MX1 MM1 A s H1 locs1 → zInv true (cI + 130000) MX1 MM1 → W p l e room_1 s m #[Value.ref b] below meth c H1 locs1 (cells + 21) (slots + 4067) Q (F0 m 1077 ls [])) : W p l e room_1 s m #[Value.ref b] below meth c H locs cells slots Q (F0 m 815 ls []) := by
  obtain ⟨hX, hxs, hbl, hbA, hL, hi, hl⟩ := E
  have hx := hX.1.1
  have hb := hX.1.2.1
  have hts := hX.1.2.2.2.2
  obtain ⟨r, MX1, MM1, eX, eM, hI1⟩ := st_image 6001 (by decide) (M0 := zMc 83 (zMc 83 MX (fun _ _ => 0)) yMS) hI (fun r hr => by
    show (if r < 83 then (if r < 83 then MX r else _) else _) = MX r
    rw [if_pos hr, if_pos hr])
  obtain ⟨hPX, hPM, hDX, hDM, hne, hS⟩ := hW
  have hyA : ∀ q, yI αX H.size q → A q := fun q hq => by
    rcases hq with ⟨k, hk, rfl⟩ | hq
    · exact hDX.2 k _ (zw_at (List.getElem?_eq_getElem (show k < (LX false).length from hk)))
    · exact hA q (Nat.le_trans hS.1 hq)
  have hMlt : ∀ j, j < LM.length → αM j < H.size := fun j hj => (hPM j _ (zw_at (List.getElem?_eq_getElem hj))).lt
  refine lv_aload_n hx hb dL_law_815 rfl (lv_at hl 2 rfl) ?_
  refine va_calli (S := Nat → Nat) (va_runV (As := []) (rest := []) hX.1 (ctX7_image_f l D cs αX 6001 MX H.size r MX1 eX) (cwV 0 hts gL_law_X7_image rfl rfl rfl (by decide +kernel) ⟨Nat.le_of_ble_eq_true rfl, Nat.le_of_ble_eq_true rfl⟩) ⟨yPreI_blind, va_recv (q := (RX7, TX7, 7)) (q0 := 0) (ci := 7) hX.2 hPX rfl (zw_at (d := (0, 7, [3, 24, 1, 45, 47, 0, 72])) rfl), fun U hU hm => ⟨rfl, by rw [hU]; exact hPX, va_K.moved hm.alike hX.2, hDX.weaken (fun _ _ _ _ => trivial), by rw [hU], yZ_warm hm hZ⟩⟩ rfl rfl hl.1 rfl (lv_room (Nat.le_of_ble_eq_true rfl)) dL_law_816 hf) hS (fun q _ h => hyA q h) hyA (fun x β t H1 locs1 ht hvm hp hB hz hk hS1 => ?_)
  obtain ⟨hp1, hp2, hp3⟩ := hp
  obtain ⟨hB1, hB2⟩ := hB
  subst hp1
  have hB1 : va_P D vwCl (zw cs (LX true) β MX1) t.heap := hB1
  rw [ht] at hB1
  have hW : yW D cs (LX true) LM β αM MX1 MM A s H1 locs1 := by
    refine ⟨hB1, hPM.kept (fun k q hq => hk q.1 ((hPM k q hq).lt) (fun h => ?_)), ⟨hB2.1, fun k q hq => ?_⟩, hDM, fun i j hi hj q => ?_, hS1⟩
    · have h1 := (hPM k q hq).lt
      obtain ⟨d, hd, rfl⟩ := zw_of hq
      rcases h with ⟨j, hj, h⟩ | h
      · have h : αM k = αX j := h
        exact hne j k hj (List.getElem?_eq_some_iff.mp hd).1 h.symm
      · have h : H.size ≤ αM k := h
        have h1 : αM k < H.size := h1
        omega
    · obtain ⟨d, hd, rfl⟩ := zw_of hq
      have hkl : k < 104 := (List.getElem?_eq_some_iff.mp hd).1
      show A (β k)
      by_cases h83 : k < 83
      · rw [hp2 k h83]
        exact hyA _ (Or.inl ⟨k, h83, rfl⟩)
      · exact hyA _ (Or.inr (hp3 k (by omega) hkl))
    · have hi : i < 104 := hi
      by_cases h83 : i < 83
      · exact hne i j h83 hj (by rw [← hp2 i h83]; exact q)
      · have h1 := hp3 i (by omega) hi
        have h2 := hMlt j hj
        omega
  refine lv_aload_n hx hb dL_law_819 rfl (lv_at hl 1 rfl) ?_
  refine yW_i (As := []) hX (yW_swap hW) (ci := 8) rfl rfl (ctX8_image l D cs αM 6001 MM r MM1 eM) (cwV 0 hts gL_law_X8_image rfl rfl rfl (by decide +kernel) ⟨Nat.le_of_ble_eq_true rfl, Nat.le_of_ble_eq_true rfl⟩) rfl hl.1 (Nat.le_of_ble_eq_true rfl) rfl dL_law_820 hf (fun H locs hW => ?_)
  have hW := yW_swap hW
  refine ys_ieq (tgt := 1077) hx hb dL_law_823 (by decide) ?_
  exact kk β MX1 MM1 H locs (hp2 0 (by decide)) hW hI1
end YLI
def yRm (κ : Bool) (cells slots : Nat) : Prop := cells + (if κ then 0 else 21) ≤ 600000 ∧ slots + (if κ then 0 else 4067) ≤ 7302250
theorem yRm_h {κ : Bool} {cells slots : Nat} (h : yRm κ cells slots) : cells ≤ room_1.cells ∧ slots ≤ room_1.slots := by
  have h1 := h.1
  have h2 := h.2
  show cells ≤ 600000 ∧ slots ≤ 7302250
  constructor <;> omega
theorem nZ_len {L : Nat} (hL : L ≤ 3072) : Int32.ofNat L = nZ (L : Int) := by
  apply Int32.toInt_inj.mp
  rw [nZ_toInt (by constructor <;> omega), Int32.toInt_ofNat_of_lt (by omega)]
set_option maxHeartbeats 40000000 in
set_option maxRecDepth 100000 in
theorem law_loop {p : Program} {l : Launch} {e : Env} {s : State} {m : MethodId} {below : List Frame} {meth : Method} {c : Code} {D : va_G} {cs : Nat → ClassId} {αM : Nat → Nat} {b L : Nat} {xs : Nat → Int32} (hX : zX p s m #[Value.ref b] c cL_law 4 D cs RL wsL_law) (hr : meth.sig.returnType = ret) (hlocks : meth.locks = false) (hZ : yZ s) (hxs : va_X b L xs s s.heap) (hbl : b < s.heap.size) (hL : L ≤ 3072) :
    ∀ (t n i : Nat) (κ : Bool) (αX : Nat → Nat) (MX MM : zM) (H : Heap) (locs : List Loc) (cells slots : Nat) (ls : Array Slot), i = 6 * n → L ≤ i + t → n ≤ 512 → yW D cs (LX κ) LM αX αM MX MM (fun q : Nat => s.heap.size ≤ q) s H locs → zInv κ (130000 * (n : Int)) MX MM → yRm κ cells slots → lv_has ls 4 [(3, .int (nZ (i : Int))), (2, .ref (αM 0)), (1, .ref (αX 0)), (0, .ref b)] →
      W p l e room_1 s m #[Value.ref b] below meth c H locs cells slots (lw_Z below #[Value.ref b] s) (F0 m 18 ls []) := by
  have hx := hX.1.1
  have hb := hX.1.2.1
  have hA : ∀ q : Nat, s.heap.size ≤ q → (fun q : Nat => s.heap.size ≤ q) q := fun _ h => h
  have hbA : ¬ (fun q : Nat => s.heap.size ≤ q) b := Nat.not_le.mpr hbl
  intro t
  induction t with
  | zero =>
    intro n i κ αX MX MM H locs cells slots ls hi ht hn hW hI hrm hl
    refine lv_iload_n hx hb dL_law_18 rfl (lv_at hl 0 rfl) ?_
    refine lv_aload_n hx hb dL_law_19 rfl (lv_at hl 3 rfl) ?_
    refine va_slen hx hb hxs hbl hbA hW.2.2.2.2.2 dL_law_20 ?_
    rw [nZ_len hL]
    refine z_bipush (v := 6) hx hb dL_law_21 (by decide +kernel) ?_
    refine z_isub hx hb dL_law_23 ?_
    refine z_icmp_gt (tgt := 1083) hx hb (by constructor <;> omega) (by constructor <;> omega) dL_law_24 (by decide) (fun _ => ?_) (fun q => absurd (by omega) q)
    refine lv_iconst (v := 1) hx hb dL_law_1083 (by decide) ?_
    refine va_forget (fun q hq => hW.2.2.2.2.2.2.2 q hq) ?_
    exact W.widen (yRm_h hrm).1 (yRm_h hrm).2 (lw_ret hx hb hr hlocks dL_law_1084)
  | succ t ih =>
    intro n i κ αX MX MM H locs cells slots ls hi ht hn hW hI hrm hl
    refine lv_iload_n hx hb dL_law_18 rfl (lv_at hl 0 rfl) ?_
    refine lv_aload_n hx hb dL_law_19 rfl (lv_at hl 3 rfl) ?_
    refine va_slen hx hb hxs hbl hbA hW.2.2.2.2.2 dL_law_20 ?_
    rw [nZ_len hL]
    refine z_bipush (v := 6) hx hb dL_law_21 (by decide +kernel) ?_
    refine z_isub hx hb dL_law_23 ?_
    refine z_icmp_gt (tgt := 1083) hx hb (by constructor <;> omega) (by constructor <;> omega) dL_law_24 (by decide) (fun _ => ?_) (fun q => ?_)
    · refine lv_iconst (v := 1) hx hb dL_law_1083 (by decide) ?_
      refine va_forget (fun q hq => hW.2.2.2.2.2.2.2 q hq) ?_
      exact W.widen (yRm_h hrm).1 (yRm_h hrm).2 (lw_ret hx hb hr hlocks dL_law_1084)
    have hi6 : i + 6 ≤ L := by omega
    have hc : 130000 * (n : Int) + 130000 ≤ 1899990000 := by omega
    have ec : 130000 * (n : Int) + 130000 = 130000 * ((n + 1 : Nat) : Int) := by omega
    have E : yE p s m c D cs (fun q : Nat => s.heap.size ≤ q) b L xs i ls αX αM := ⟨hX, hxs, hbl, hbA, hL, hi6, hl⟩
    have hf := yRm_h hrm
    have nx : ∀ (κ1 : Bool) (β : Nat → Nat) (MX1 MM1 : zM) (H1 : Heap) (locs1 : List Loc) (cells1 slots1 : Nat), β 0 = αX 0 → yRm κ1 cells1 slots1 → yW D cs (LX κ1) LM β αM MX1 MM1 (fun q : Nat => s.heap.size ≤ q) s H1 locs1 → zInv κ1 (130000 * (n : Int) + 130000) MX1 MM1 → W p l e room_1 s m #[Value.ref b] below meth c H1 locs1 cells1 slots1 (lw_Z below #[Value.ref b] s) (F0 m 1077 ls []) := by
      intro κ1 β MX1 MM1 H1 locs1 cells1 slots1 hβ hrm1 hW1 hI1
      refine z_iinc (a := (i : Int)) (v := ((i + 6 : Nat) : Int)) (by omega) (lv' := [(3, .int (nZ ((i + 6 : Nat) : Int))), (2, .ref (αM 0)), (1, .ref (αX 0)), (0, .ref b)]) hx hb dL_law_1077 hl (k := 0) rfl (by decide) rfl (fun ls hl => ?_)
      refine lv_goto (tgt := 18) hx hb dL_law_1080 (by decide) ?_
      exact ih (n + 1) (i + 6) κ1 β MX1 MM1 H1 locs1 cells1 slots1 ls (by omega) (by omega) (by omega) hW1 (by rw [← ec]; exact hI1) hrm1 (by rw [hβ]; exact hl)
    have ky : ∀ (MX1 MM1 : zM) (H1 : Heap) (locs1 : List Loc), yW D cs (LX κ) LM αX αM MX1 MM1 (fun q : Nat => s.heap.size ≤ q) s H1 locs1 → zInv κ (130000 * (n : Int) + 130000) MX1 MM1 → W p l e room_1 s m #[Value.ref b] below meth c H1 locs1 cells slots (lw_Z below #[Value.ref b] s) (F0 m 1077 ls []) := fun MX1 MM1 H1 locs1 hW1 hI1 => nx κ αX MX1 MM1 H1 locs1 cells slots rfl hrm hW1 hI1
    refine ys_l0 hx hb hxs hbl hbA hW.2.2.2.2.2 hl rfl rfl (by omega) hL dL_law_27 dL_law_28 dL_law_29 ?_
    refine z_bipush (v := 31) hx hb dL_law_30 (by decide +kernel) ?_
    refine lv_iand hx hb dL_law_32 ?_
    generalize hsw : (xs i &&& nZ 31) = x
    rw [← nZ_of x]
    have hsr := xR x
    generalize hgv : x.toInt = v at hsr ⊢
    rcases (show v = 0 ∨ v = 1 ∨ v = 2 ∨ v = 3 ∨ v = 4 ∨ v = 5 ∨ v = 6 ∨ v = 7 ∨ v = 8 ∨ v = 9 ∨ v = 10 ∨ v = 11 ∨ v = 12 ∨ v = 13 ∨ v = 14 ∨ v = 15 ∨ v = 16 ∨ v = 17 ∨ v = 18 ∨ v = 19 ∨ v = 20 ∨ v = 21 ∨ v = 22 ∨ v = 23 ∨ v = 24 ∨ v = 25 ∨ v = 26 ∨ (v < 0 ∨ 26 < v) by omega) with rfl | rfl | rfl | rfl | rfl | rfl | rfl | rfl | rfl | rfl | rfl | rfl | rfl | rfl | rfl | rfl | rfl | rfl | rfl | rfl | rfl | rfl | rfl | rfl | rfl | rfl | rfl | h
    · refine z_tableIn (v := 0) (tgt := 156) hx hb rfl (by decide) dL_law_33 (by decide) (by decide) rfl (by decide) ?_
      exact lb_set E hW hI hc hf ky
    · refine z_tableIn (v := 1) (tgt := 189) hx hb rfl (by decide) dL_law_33 (by decide) (by decide) rfl (by decide) ?_
      exact lb_told E hW hI hc hf ky
    · refine z_tableIn (v := 2) (tgt := 212) hx hb rfl (by decide) dL_law_33 (by decide) (by decide) rfl (by decide) ?_
      exact lb_put E hW hI hc hf ky
    · refine z_tableIn (v := 3) (tgt := 275) hx hb rfl (by decide) dL_law_33 (by decide) (by decide) rfl (by decide) ?_
      exact lb_get E hW hI hc hf ky
    · refine z_tableIn (v := 4) (tgt := 309) hx hb rfl (by decide) dL_law_33 (by decide) (by decide) rfl (by decide) ?_
      exact lb_drop E hW hI hc hf ky
    · refine z_tableIn (v := 5) (tgt := 342) hx hb rfl (by decide) dL_law_33 (by decide) (by decide) rfl (by decide) ?_
      exact lb_pin E hW hI hc hf ky
    · refine z_tableIn (v := 6) (tgt := 401) hx hb rfl (by decide) dL_law_33 (by decide) (by decide) rfl (by decide) ?_
      exact lb_of E hW hI hc hf ky
    · refine z_tableIn (v := 7) (tgt := 444) hx hb rfl (by decide) dL_law_33 (by decide) (by decide) rfl (by decide) ?_
      exact lb_key E hW hI hc hf ky
    · refine z_tableIn (v := 8) (tgt := 477) hx hb rfl (by decide) dL_law_33 (by decide) (by decide) rfl (by decide) ?_
      exact lb_gone E hW hI hc hf ky
    · refine z_tableIn (v := 9) (tgt := 500) hx hb rfl (by decide) dL_law_33 (by decide) (by decide) rfl (by decide) ?_
      exact lb_victim E hW hI hc hf ky
    · refine z_tableIn (v := 10) (tgt := 523) hx hb rfl (by decide) dL_law_33 (by decide) (by decide) rfl (by decide) ?_
      exact lb_feed E hW hI hc hf ky
    · refine z_tableIn (v := 11) (tgt := 546) hx hb rfl (by decide) dL_law_33 (by decide) (by decide) rfl (by decide) ?_
      exact lb_trace E hW hI hc hf ky
    · refine z_tableIn (v := 12) (tgt := 559) hx hb rfl (by decide) dL_law_33 (by decide) (by decide) rfl (by decide) ?_
      exact lb_run E hW hI hc hf ky
    · refine z_tableIn (v := 13) (tgt := 582) hx hb rfl (by decide) dL_law_33 (by decide) (by decide) rfl (by decide) ?_
      exact lb_would E hW hI hc hf ky
    · refine z_tableIn (v := 14) (tgt := 615) hx hb rfl (by decide) dL_law_33 (by decide) (by decide) rfl (by decide) ?_
      exact lb_need E hW hI hc hf ky
    · refine z_tableIn (v := 15) (tgt := 648) hx hb rfl (by decide) dL_law_33 (by decide) (by decide) rfl (by decide) ?_
      exact lb_odds E hW hI hc hf ky
    · refine z_tableIn (v := 16) (tgt := 692) hx hb rfl (by decide) dL_law_33 (by decide) (by decide) rfl (by decide) ?_
      exact lb_mean E hW hI hc hf ky
    · refine z_tableIn (v := 17) (tgt := 726) hx hb rfl (by decide) dL_law_33 (by decide) (by decide) rfl (by decide) ?_
      exact lb_book E hW hI hc hf ky
    · refine z_tableIn (v := 18) (tgt := 769) hx hb rfl (by decide) dL_law_33 (by decide) (by decide) rfl (by decide) ?_
      exact lb_looked E hW hI hc hf ky
    · refine z_tableIn (v := 19) (tgt := 782) hx hb rfl (by decide) dL_law_33 (by decide) (by decide) rfl (by decide) ?_
      exact lb_judge E hW hI hc hf ky
    · refine z_tableIn (v := 20) (tgt := 815) hx hb rfl (by decide) dL_law_33 (by decide) (by decide) rfl (by decide) ?_
      cases κ with
      | true => exact lb_image_t E hW hI hc hf ky
      | false => exact lb_image_f E hZ hA hW hI hrm (fun β MX1 MM1 H1 locs1 hβ hW1 hI1 => nx true β MX1 MM1 H1 locs1 _ _ hβ ⟨by have := hrm.1; exact this, by have := hrm.2; exact this⟩ hW1 hI1)
    · refine z_tableIn (v := 21) (tgt := 828) hx hb rfl (by decide) dL_law_33 (by decide) (by decide) rfl (by decide) ?_
      cases κ with
      | true => exact lb_undo_t E hW hI hc hf ky
      | false => exact lb_undo_f E hW hI hc hf ky
    · refine z_tableIn (v := 22) (tgt := 841) hx hb rfl (by decide) dL_law_33 (by decide) (by decide) rfl (by decide) ?_
      exact lb_count E hW hI hc hf ky
    · refine z_tableIn (v := 23) (tgt := 864) hx hb rfl (by decide) dL_law_33 (by decide) (by decide) rfl (by decide) ?_
      exact lb_tape E hW hI hc hf ky
    · refine z_tableIn (v := 24) (tgt := 907) hx hb rfl (by decide) dL_law_33 (by decide) (by decide) rfl (by decide) ?_
      exact lb_item E hW hI hc hf ky
    · refine z_tableIn (v := 25) (tgt := 980) hx hb rfl (by decide) dL_law_33 (by decide) (by decide) rfl (by decide) ?_
      exact lb_read E hW hI hc hf ky
    · refine z_tableIn (v := 26) (tgt := 1014) hx hb rfl (by decide) dL_law_33 (by decide) (by decide) rfl (by decide) ?_
      exact lb_shift E hW hI hc hf ky
    · refine z_tableOut (tgt := 1077) hx hb hsr h dL_law_33 (by decide) ?_
      exact ky MX MM H locs hW (hI.weak (by omega))
/-! what the tables give at the law's entry -/
theorem y_prim {args : Array Value} {s : State} {ty : FieldType} (h : (Cond.arrayClass ty).before args s = true) : ∃ c, s.vm.findClass ("[" ++ ty.toString) = some c ∧ ArrOfT s c ty := by
  obtain ⟨c, k, comp, h1, h2, h3⟩ := Cond.arrayClass_spec h
  exact ⟨c, h1, fun n z => ⟨(fun q hq => by cases hq), k, h2, comp, h3⟩⟩
theorem y_objs {args : Array Value} {s : State} {C : String} (h : (Cond.arrayOver (.object C)).before args s = true) : ∃ c, ArrOfT s c (.object C) ∧ va_RA s c (.object C) := by
  obtain ⟨comp, c, k, h1, -, h3, h4, h5⟩ := Cond.arrayOver_spec h
  exact ⟨c, fun n z => ⟨(fun q hq => by cases hq), k, h3, comp, h4⟩, ⟨k, comp, h3, h4, h1, h5⟩⟩
theorem y_arrs {args : Array Value} {s : State} {t : FieldType} (h : (Cond.arrayOver (.array t)).before args s = true) : ∃ c, ArrOfT s c (.array t) ∧ va_RA s c (.array t) := by
  obtain ⟨comp, c, k, h1, -, h3, h4, h5⟩ := arrayOverA_spec h
  exact ⟨c, fun n z => ⟨(fun q hq => by cases hq), k, h3, comp, h4⟩, h5⟩
set_option maxRecDepth 20000 in
theorem y_known {args : Array Value} {s : State} (hts : ∀ w ∈ lw_tbl, w.before args s = true) : ∃ (D : va_G) (cs : Nat → ClassId), va_K D vwCl (zt cs) s := by
  obtain ⟨c0, i0, k0⟩ := u_known (C := RX0) (T := TX0) (N := 3) (n := 3) hts il_wsX00 (hts _ (List.mem_of_getElem? (i := 96) (by decide +kernel)))
  obtain ⟨c1, i1, k1⟩ := u_known (C := RX1) (T := TX1) (N := 2) (n := 2) hts il_wsX10 (hts _ (List.mem_of_getElem? (i := 82) (by decide +kernel)))
  obtain ⟨c2, i2, k2⟩ := u_known (C := RX2) (T := TX2) (N := 4) (n := 4) hts il_wsX20 (hts _ (List.mem_of_getElem? (i := 55) (by decide +kernel)))
  obtain ⟨c3, i3, k3⟩ := u_known (C := RX3) (T := TX3) (N := 6) (n := 6) hts il_wsX30 (hts _ (List.mem_of_getElem? (i := 49) (by decide +kernel)))
  obtain ⟨c4, i4, k4⟩ := u_known (C := RX4) (T := TX4) (N := 3) (n := 3) hts il_wsX40 (hts _ (List.mem_of_getElem? (i := 186) (by decide +kernel)))
  obtain ⟨c5, i5, k5⟩ := u_known (C := RX5) (T := TX5) (N := 3) (n := 3) hts il_wsX50 (hts _ (List.mem_of_getElem? (i := 140) (by decide +kernel)))
  obtain ⟨c6, i6, k6⟩ := u_known (C := RX6) (T := TX6) (N := 4) (n := 4) hts il_wsX60 (hts _ (List.mem_of_getElem? (i := 161) (by decide +kernel)))
  obtain ⟨c7, i7, k7⟩ := u_known (C := RX7) (T := TX7) (N := 7) (n := 7) hts il_wsX70 (hts _ (List.mem_of_getElem? (i := 41) (by decide +kernel)))
  obtain ⟨c8, i8, k8⟩ := u_known (C := RX8) (T := TX8) (N := 19) (n := 19) hts il_wsX80 (hts _ (List.mem_of_getElem? (i := 534) (by decide +kernel)))
  obtain ⟨a0, p0, q0⟩ := y_prim (ty := .int) (hts (.arrayClass .int) (List.mem_of_getElem? (i := 78) (by decide +kernel)))
  obtain ⟨a1, p1, q1⟩ := y_prim (ty := .long) (hts (.arrayClass .long) (List.mem_of_getElem? (i := 204) (by decide +kernel)))
  obtain ⟨a2, q2, p2⟩ := y_objs (C := RX4) (hts (.arrayOver (.object RX4)) (List.mem_of_getElem? (i := 160) (by decide +kernel)))
  obtain ⟨a3, q3, p3⟩ := y_objs (C := RX6) (hts (.arrayOver (.object RX6)) (List.mem_of_getElem? (i := 158) (by decide +kernel)))
  obtain ⟨a4, q4, p4⟩ := y_arrs (t := .int) (hts (.arrayOver (.array .int)) (List.mem_of_getElem? (i := 80) (by decide +kernel)))
  obtain ⟨a5, q5, p5⟩ := y_arrs (t := .long) (hts (.arrayOver (.array .long)) (List.mem_of_getElem? (i := 540) (by decide +kernel)))
  refine ⟨(fun k => if k = 0 then c0 else if k = 1 then c1 else if k = 2 then c2 else if k = 3 then c3 else if k = 4 then c4 else if k = 5 then c5 else if k = 6 then c6 else if k = 7 then c7 else c8, fun k => if k = 0 then i0 else if k = 1 then i1 else if k = 2 then i2 else if k = 3 then i3 else if k = 4 then i4 else if k = 5 then i5 else if k = 6 then i6 else if k = 7 then i7 else i8), fun k => if k = 0 then a0 else if k = 1 then a1 else if k = 2 then a2 else if k = 3 then a3 else if k = 4 then a4 else a5, fun k q hq => ?_, fun k q hq => ?_⟩
  · match k, hq with
    | 0, hq => cases hq; exact k0
    | 1, hq => cases hq; exact k1
    | 2, hq => cases hq; exact k2
    | 3, hq => cases hq; exact k3
    | 4, hq => cases hq; exact k4
    | 5, hq => cases hq; exact k5
    | 6, hq => cases hq; exact k6
    | 7, hq => cases hq; exact k7
    | 8, hq => cases hq; exact k8
    | k + 9, hq => simp [vwCl] at hq
  · match k, hq with
    | 0, hq => cases hq; exact ⟨q0, p0⟩
    | 1, hq => cases hq; exact ⟨q1, p1⟩
    | 2, hq => cases hq; exact ⟨q2, p2⟩
    | 3, hq => cases hq; exact ⟨q3, p3⟩
    | 4, hq => cases hq; exact ⟨q4, p4⟩
    | 5, hq => cases hq; exact ⟨q5, p5⟩
    | k + 6, hq => simp [zt] at hq
theorem y_tabZ {args : Array Value} {s : State} (hts : ∀ w ∈ lw_tbl, w.before args s = true) : yZ s :=
  ⟨⟨va_Nw.of rfl (hts _ (List.mem_of_getElem? (i := 83) (by decide +kernel))), va_Nw.of rfl (hts _ (List.mem_of_getElem? (i := 97) (by decide +kernel))), va_Nw.of rfl (hts _ (List.mem_of_getElem? (i := 141) (by decide +kernel))), va_Nw.of rfl (hts _ (List.mem_of_getElem? (i := 162) (by decide +kernel))), va_Nw.of rfl (hts _ (List.mem_of_getElem? (i := 187) (by decide +kernel)))⟩,
    va_AO.of (hts _ (List.mem_of_getElem? (i := 158) (by decide +kernel))), va_AO.of (hts _ (List.mem_of_getElem? (i := 160) (by decide +kernel))), over_moved (Vm.Alike.refl _) (hts _ (List.mem_of_getElem? (i := 80) (by decide +kernel))), over_moved (Vm.Alike.refl _) (hts _ (List.mem_of_getElem? (i := 540) (by decide +kernel)))⟩
/-! the memories at the beginning -/
theorem yS_row (r : Nat) (hr : r < 21) : zsh 1 (zpk yPerm yMX) r = yMS r := by
  rcases (show r = 0 ∨ r = 1 ∨ r = 2 ∨ r = 3 ∨ r = 4 ∨ r = 5 ∨ r = 6 ∨ r = 7 ∨ r = 8 ∨ r = 9 ∨ r = 10 ∨ r = 11 ∨ r = 12 ∨ r = 13 ∨ r = 14 ∨ r = 15 ∨ r = 16 ∨ r = 17 ∨ r = 18 ∨ r = 19 ∨ r = 20 by omega) with rfl | rfl | rfl | rfl | rfl | rfl | rfl | rfl | rfl | rfl | rfl | rfl | rfl | rfl | rfl | rfl | rfl | rfl | rfl | rfl | rfl
  all_goals rfl
theorem yS_same : zSame zS0 (zsh 1 (zpk yPerm yMX)) := by
  refine ⟨fun r j hj => ?_, by rw [yS_row 16 (by decide)]; rfl, by rw [yS_row 18 (by decide)]; rfl⟩
  have hr : r < 21 := by
    by_cases h : r < 21
    · exact h
    · have e : zlen r = 0 := by
        unfold zlen
        rw [List.getD_eq_getElem?_getD, List.getElem?_eq_none (by simp; omega)]
        rfl
      rw [e] at hj
      omega
  rw [yS_row r hr]
  rcases (show r = 0 ∨ r = 1 ∨ r = 2 ∨ r = 3 ∨ r = 4 ∨ r = 5 ∨ r = 6 ∨ r = 7 ∨ r = 8 ∨ r = 9 ∨ r = 10 ∨ r = 11 ∨ r = 12 ∨ r = 13 ∨ r = 14 ∨ r = 15 ∨ r = 16 ∨ r = 17 ∨ r = 18 ∨ r = 19 ∨ r = 20 by omega) with rfl | rfl | rfl | rfl | rfl | rfl | rfl | rfl | rfl | rfl | rfl | rfl | rfl | rfl | rfl | rfl | rfl | rfl | rfl | rfl | rfl
  · exact absurd hj (Nat.not_lt_zero _)
  · have hj : j < 4 := hj
    rcases (show j = 0 ∨ j = 1 ∨ j = 2 ∨ j = 3 by omega) with rfl | rfl | rfl | rfl
    all_goals rfl
  · rfl
  · exact absurd hj (Nat.not_lt_zero _)
  · rfl
  · rfl
  · have hj : j < 405 := hj
    show (if 400 ≤ j ∧ j < 405 then (j : Int) else 0) = if 400 ≤ j then (j : Int) else 0
    by_cases h4 : 400 ≤ j
    · rw [if_pos h4, if_pos (show 400 ≤ j ∧ j < 405 from ⟨h4, hj⟩)]
    · rw [if_neg h4, if_neg (show ¬ (400 ≤ j ∧ j < 405) from fun q => h4 q.1)]
  · have hj : j < 405 := hj
    show (if 400 ≤ j ∧ j < 405 then (j : Int) else 0) = if 400 ≤ j then (j : Int) else 0
    by_cases h4 : 400 ≤ j
    · rw [if_pos h4, if_pos (show 400 ≤ j ∧ j < 405 from ⟨h4, hj⟩)]
    · rw [if_neg h4, if_neg (show ¬ (400 ≤ j ∧ j < 405) from fun q => h4 q.1)]
  · exact absurd hj (Nat.not_lt_zero _)
  · rfl
  · rfl
  · rfl
  · rfl
  · rfl
  · rfl
  · rfl
  · exact absurd hj (Nat.not_lt_zero _)
  · rfl
  · exact absurd hj (Nat.not_lt_zero _)
  · rfl
  · rfl
theorem yG_same (i : Nat) : yMM 1 i = zG0 i := by
  rcases (show i = 3200 ∨ i = 3201 ∨ i = 3202 ∨ i = 3203 ∨ (i < 3200 ∨ 3203 < i) by omega) with rfl | rfl | rfl | rfl | h
  · rfl
  · rfl
  · rfl
  · rfl
  · rw [zG0_z h]
    have e0 : i ≠ 3200 := by omega
    have e1 : i ≠ 3201 := by omega
    have e2 : i ≠ 3202 := by omega
    have e3 : i ≠ 3203 := by omega
    simp [yMM, zup, zMc, e0, e1, e2, e3]
theorem yInv0 : zInv false (130000 * ((0 : Nat) : Int)) (zpk yPerm yMX) yMM := by
  refine zInv0 yS_same (fun i _ => yG_same i) rfl rfl rfl rfl rfl rfl (fun i hi => ?_)
  rcases (show i = 0 ∨ i = 1 ∨ i = 2 ∨ i = 3 ∨ i = 4 ∨ i = 5 by omega) with rfl | rfl | rfl | rfl | rfl | rfl
  all_goals exact ⟨rfl, rfl, rfl, rfl, fun j _ => ⟨rfl, rfl⟩⟩
theorem zMc0 (M M2 : zM) : zMc 0 M M2 = M2 := by
  funext k
  unfold zMc
  rw [if_neg (Nat.not_lt_zero k), Nat.sub_zero]
theorem zca0 (α β : Nat → Nat) : zca 0 α β = β := by
  funext k
  unfold zca
  rw [if_neg (Nat.not_lt_zero k), Nat.sub_zero]
/-- the two worlds behind the two constructors -/
theorem y_split {D : va_G} {cs : Nat → ClassId} {L Lk : List zD} {α β : Nat → Nat} {M M2 : zM} {A : Nat → Prop} {s : State} {H : Heap} {locs : List Loc} (hL : zrs L = true) (h4 : L.all (fun d => decide (d.1 ≠ 4)) = true) (h5 : Lk.all (fun d => decide (d.1 ≠ 4)) = true) (hH : zHv D cs (L ++ Lk.map (zshf L.length)) (zca L.length α β) (zMc L.length M M2) A s H locs) : yW D cs L Lk α β M M2 A s H locs := by
  obtain ⟨hP, hD, hS⟩ := hH
  rw [zv_cat hL, zv_zw h4, zv_zw h5] at hP hD
  have hl : ∀ (k : Nat) (q : Nat × va_E), (zw cs L α M)[k]? = some q → (zw cs L α M ++ zw cs Lk β M2)[k]? = some q := fun k q hq => by
    rw [List.getElem?_append_left (List.getElem?_eq_some_iff.mp hq).1]; exact hq
  have hr : ∀ (k : Nat) (q : Nat × va_E), (zw cs Lk β M2)[k]? = some q → (zw cs L α M ++ zw cs Lk β M2)[L.length + k]? = some q := fun k q hq => by
    rw [List.getElem?_append_right (by rw [zw_len]; omega), zw_len, Nat.add_sub_cancel_left]; exact hq
  refine ⟨fun k q hq => hP k q (hl k q hq), fun k q hq => hP _ q (hr k q hq), ⟨fun i j x y hi hj => hD.1 i j x y (hl i x hi) (hl j y hj), fun k q hq => hD.2 k q (hl k q hq)⟩, ⟨fun i j x y hi hj e => ?_, fun k q hq => hD.2 _ q (hr k q hq)⟩, fun i j hi hj e => ?_, hS⟩
  · have := hD.1 _ _ x y (hr i x hi) (hr j y hj) e
    omega
  · have g1 := hl i _ (zw_at (List.getElem?_eq_getElem hi))
    have g2 := hr j _ (zw_at (List.getElem?_eq_getElem hj))
    have := hD.1 _ _ _ _ g1 g2 e
    omega
set_option maxHeartbeats 40000000 in
set_option maxRecDepth 100000 in
/-- the law, from its entry -/
theorem whole_start {p : Program} {e : Env} {s : State} {m : MethodId} {below : List Frame} {meth : Method} {c : Code} (l : Launch) (hflags : l.flags = flags0) {b L : Nat} {xs : Nat → Int32} (hL : L ≤ 3072) (C0 : lw_At p s m meth c b L xs) : W p l e room_1 s m #[Value.ref b] below meth c s.heap [] 0 0 (lw_Z below #[Value.ref b] s) (entryFrame m ([Value.ref b] : List Value).toArray 4) := by
  obtain ⟨hx, hb, hr, hml, hown, hts0, hxs, hbl, hlocks, -⟩ := C0
  obtain ⟨D, cs, hK⟩ := y_known hts0
  have hZ := y_tabZ hts0
  have hA : ∀ q : Nat, s.heap.size ≤ q → (fun q : Nat => s.heap.size ≤ q) q := fun _ h => h
  have hX : zX p s m #[Value.ref b] c cL_law 4 D cs RL wsL_law := ⟨⟨hx, hb, hml, hown, fun w hw => hts0 w (wsL_law_in w hw)⟩, hK⟩
  have hts := hX.1.2.2.2.2
  rw [lg_entry_eq]
  have hl := lv_entry ([.ref b]) (n := 4) (Nat.le_of_ble_eq_true rfl)
  generalize (lg_sl ([.ref b]) ++ List.replicate (4 - (lg_sl ([.ref b])).length) Slot.unset).toArray = ls at hl ⊢
  have hl : lv_has ls 4 [(0, .ref b)] := hl
  have e0 : zv cs [] (fun _ => 0) (fun _ _ => 0) = [] := rfl
  have hH : zHv D cs [] (fun _ => 0) (fun _ _ => 0) (fun q : Nat => s.heap.size ≤ q) s s.heap [] := ⟨by rw [e0]; intro k q h; simp at h, by rw [e0]; exact ⟨fun i j p q h => by simp at h, fun k q h => by simp at h⟩, va_S.rf⟩
  refine y_new (L := []) (α := fun _ => 0) (M := fun _ _ => 0) (ci := 7) (C := RX7) (T := TX7) (N := 7) (fs := [1, 1, 1, 1, 1, 0, 1]) hX hH rfl hA rfl tyX7 tyX7_ok inlX7 (List.mem_of_getElem? (i := 0) (by decide +kernel)) (List.mem_of_getElem? (i := 1) (by decide +kernel)) (List.mem_of_getElem? (i := 2) (by decide +kernel)) rfl rfl (fun j hj => by rcases (show j = 0 ∨ j = 1 ∨ j = 2 ∨ j = 3 ∨ j = 4 ∨ j = 5 ∨ j = 6 by omega) with rfl | rfl | rfl | rfl | rfl | rfl | rfl <;> rfl) (Nat.le_of_ble_eq_true rfl) (Nat.le_of_ble_eq_true rfl) dL_law_0 (fun q1 H hH => ?_)
  refine lv_dup hx hb dL_law_3 rfl ?_
  refine y_back (L := []) (α := fun _ => 0) (M := fun _ _ => 0) (L1 := LX false) (Lk := LX false) (Mk := zpk yPerm yMX) (ci := 7) (fs := [1, 1, 1, 1, 1, 0, 1]) (mc := 82) (ms := 9011) hH rfl hA rfl (by decide +kernel) (va_runI (As := []) hX.1 (ctX7_init l D cs q1 H.size) (cwI 0 hts gL_law_X7_init rfl rfl rfl (hts (.initialized RX7) (List.mem_of_getElem? (i := 2) (by decide +kernel))) (hts (.methodLink RL 9 yX7_init) (List.mem_of_getElem? (i := 7) (by decide +kernel))) (hts (.instanceMethod yX7_init) (List.mem_of_getElem? (i := 8) (by decide +kernel))) rfl (by decide +kernel) ⟨Nat.le_of_ble_eq_true rfl, Nat.le_of_ble_eq_true rfl⟩) (y_preZ (L := []) (α := fun _ => 0) hX hZ hH rfl rfl rfl) rfl rfl hl.1 rfl (lv_room (Nat.le_of_ble_eq_true rfl)) dL_law_4 ⟨Nat.le_of_ble_eq_true rfl, Nat.le_of_ble_eq_true rfl⟩) (fun b1 H locs hH => ?_)
  have e1 : zca ([] : List zD).length (fun _ => 0) b1 = b1 := zca0 _ _
  have e2 : zMc ([] : List zD).length (fun _ _ => 0) (zpk yPerm yMX) = zpk yPerm yMX := zMc0 _ _
  rw [e1, e2] at hH
  rw [e1]
  refine lv_astore_n (lv' := [(1, .ref (b1 0)), (0, .ref b)]) hx hb dL_law_7 rfl hl (by decide) rfl (fun ls hl => ?_)
  refine y_new (L := LX false) (α := b1) (M := zpk yPerm yMX) (ci := 8) (C := RX8) (T := TX8) (N := 19) (fs := [1, 1, 1, 0, 1, 0, 1, 0, 1, 1, 1, 1, 0, 1, 1, 1, 1, 0, 0]) hX hH rfl hA rfl tyX8 tyX8_ok inlX8 (List.mem_of_getElem? (i := 3) (by decide +kernel)) (List.mem_of_getElem? (i := 4) (by decide +kernel)) (List.mem_of_getElem? (i := 5) (by decide +kernel)) rfl rfl (fun j hj => by rcases (show j = 0 ∨ j = 1 ∨ j = 2 ∨ j = 3 ∨ j = 4 ∨ j = 5 ∨ j = 6 ∨ j = 7 ∨ j = 8 ∨ j = 9 ∨ j = 10 ∨ j = 11 ∨ j = 12 ∨ j = 13 ∨ j = 14 ∨ j = 15 ∨ j = 16 ∨ j = 17 ∨ j = 18 by omega) with rfl | rfl | rfl | rfl | rfl | rfl | rfl | rfl | rfl | rfl | rfl | rfl | rfl | rfl | rfl | rfl | rfl | rfl | rfl <;> rfl) (Nat.le_of_ble_eq_true rfl) (Nat.le_of_ble_eq_true rfl) dL_law_8 (fun q2 H hH => ?_)
  refine lv_dup hx hb dL_law_11 rfl ?_
  refine y_back (L := LX false) (α := b1) (M := zpk yPerm yMX) (L1 := LX false ++ LM.map (zshf (LX false).length)) (Lk := LM) (Mk := yMM) (ci := 8) (fs := [1, 1, 1, 0, 1, 0, 1, 0, 1, 1, 1, 1, 0, 1, 1, 1, 1, 0, 0]) (mc := 19) (ms := 11063) hH rfl hA rfl rfl (va_runI (As := []) hX.1 (ctX8_init l D cs q2 H.size) (cwI 0 hts gL_law_X8_init rfl rfl rfl (hts (.initialized RX8) (List.mem_of_getElem? (i := 5) (by decide +kernel))) (hts (.methodLink RL 12 yX8_init) (List.mem_of_getElem? (i := 84) (by decide +kernel))) (hts (.instanceMethod yX8_init) (List.mem_of_getElem? (i := 85) (by decide +kernel))) rfl (by decide +kernel) ⟨Nat.le_of_ble_eq_true rfl, Nat.le_of_ble_eq_true rfl⟩) (y_preZ (L := LX false) (α := b1) hX hZ hH rfl rfl rfl) rfl rfl hl.1 rfl (lv_room (Nat.le_of_ble_eq_true rfl)) dL_law_12 ⟨Nat.le_of_ble_eq_true rfl, Nat.le_of_ble_eq_true rfl⟩) (fun b2 H locs hH => ?_)
  have e3 : zca (LX false).length b1 b2 (LX false).length = b2 0 := by
    unfold zca
    rw [if_neg (show ¬ (LX false).length < (LX false).length by omega), Nat.sub_self]
  rw [e3]
  have hW := y_split (by decide +kernel) (by decide +kernel) (by decide +kernel) hH
  refine lv_astore_n (lv' := [(2, .ref (b2 0)), (1, .ref (b1 0)), (0, .ref b)]) hx hb dL_law_15 rfl hl (by decide) rfl (fun ls hl => ?_)
  refine z_iconst hx hb dL_law_16 ?_
  refine z_istore_n (v := ((0 : Nat) : Int)) rfl (lv' := [(3, .int (nZ ((0 : Nat) : Int))), (2, .ref (b2 0)), (1, .ref (b1 0)), (0, .ref b)]) hx hb dL_law_17 rfl hl (by decide) rfl (fun ls hl => ?_)
  exact law_loop hX hr hlocks hZ hxs hbl hL L 0 0 false b1 _ _ H locs _ _ ls rfl (by omega) (by decide) hW yInv0 ⟨Nat.le_of_ble_eq_true rfl, Nat.le_of_ble_eq_true rfl⟩ hl
