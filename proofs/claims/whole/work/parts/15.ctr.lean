/-! laid by wip/whole/gen.py: contracts -/
set_option maxHeartbeats 4000000 in
set_option maxRecDepth 100000 in
theorem ctX8_in (l : Launch) (D : va_G) (cs : Nat → ClassId) (α : Nat → Nat) (N : Nat) (M : zM) (a1 : Int) (a2 : Int) (a3 : Int) (r : Int) (hF : fX8_in N a1 a2 a3 = some r) : Met l yX8_in wsX8_in ({ frames := 0, cells := 0, slots := 0, locals := 0 }) (zPre D cs LNo α M [.int (nZ a1), .int (nZ a2), .int (nZ a3)]) (zQi D cs LNo α r M) 0 0 (zA LNo.length α) := by
  refine z_met (cc := cX8_in) (maxL := 3) (ret := (some .boolean)) (by decide +kernel) rfl RX8 rfl (Nat.le_of_ble_eq_true rfl) ?_
  intro p e s m below meth c ls hX hr hlocks hH hl
  have hx := hX.1.1
  have hb := hX.1.2.1
  have hts := hX.1.2.2.2.2
  have hl : lv_has ls 3 [(0, .int (nZ a1)), (1, .int (nZ a2)), (2, .int (nZ a3))] := hl
  unfold fX8_in at hF
  refine lv_iload_n hx hb dX8_in_0 rfl (lv_at hl 0 rfl) ?_
  refine lv_iload_n hx hb dX8_in_1 rfl (lv_at hl 1 rfl) ?_
  obtain ⟨h1, hF⟩ := zg_e hF
  obtain ⟨h2, hF⟩ := zg_e hF
  refine z_icmp_lt (tgt := 14) hx hb h1 h2 dX8_in_2 (by decide) (fun hc => ?_) (fun hc => ?_)
  · have hF := zi_t hF hc
    refine z_iconst hx hb dX8_in_14 ?_
    exact z_iretP hX hr hlocks hH hF rfl dX8_in_15
  · have hF := zi_f hF hc
    refine lv_iload_n hx hb dX8_in_5 rfl (lv_at hl 0 rfl) ?_
    refine lv_iload_n hx hb dX8_in_6 rfl (lv_at hl 2 rfl) ?_
    obtain ⟨h3, hF⟩ := zg_e hF
    refine z_icmp_gt (tgt := 14) hx hb h1 h3 dX8_in_7 (by decide) (fun hc => ?_) (fun hc => ?_)
    · have hF := zi_t hF hc
      refine z_iconst hx hb dX8_in_14 ?_
      exact z_iretP hX hr hlocks hH hF rfl dX8_in_15
    · have hF := zi_f hF hc
      refine z_iconst hx hb dX8_in_10 ?_
      refine lv_goto (tgt := 15) hx hb dX8_in_11 (by decide) ?_
      exact z_iretP hX hr hlocks hH hF rfl dX8_in_15
set_option maxHeartbeats 4000000 in
set_option maxRecDepth 100000 in
theorem ctX8_isKey (l : Launch) (D : va_G) (cs : Nat → ClassId) (α : Nat → Nat) (N : Nat) (M : zM) (a1 : Int) (a2 : Int) (r : Int) (hF : fX8_isKey N a1 a2 = some r) : Met l yX8_isKey wsX8_isKey ({ frames := 1, cells := 0, slots := 0, locals := 22 }) (zPre D cs LNo α M [.int (nZ a1), .int (nZ a2)]) (zQi D cs LNo α r M) 0 0 (zA LNo.length α) := by
  refine z_met (cc := cX8_isKey) (maxL := 2) (ret := (some .boolean)) (by decide +kernel) rfl RX8 rfl (Nat.le_of_ble_eq_true rfl) ?_
  intro p e s m below meth c ls hX hr hlocks hH hl
  have hx := hX.1.1
  have hb := hX.1.2.1
  have hts := hX.1.2.2.2.2
  have hl : lv_has ls 2 [(0, .int (nZ a1)), (1, .int (nZ a2))] := hl
  unfold fX8_isKey at hF
  refine lv_iload_n hx hb dX8_isKey_0 rfl (lv_at hl 0 rfl) ?_
  refine z_iconst hx hb dX8_isKey_1 ?_
  refine z_iconst hx hb dX8_isKey_2 ?_
  obtain ⟨r1, c2, hF⟩ := zc_e hF
  refine z_callSi (As := [.int (nZ a1), .int (nZ (0:Int)), .int (nZ (3:Int))]) (is := []) (Ll := []) hX hH rfl (ctX8_in l D cs (zsb [] α) N (zpk [] M) a1 (0:Int) (3:Int) r1 c2) (va_cwS 3 hts gX8_isKey_X8_in rfl rfl rfl (by decide +kernel) ⟨Nat.le_of_ble_eq_true rfl, Nat.le_of_ble_eq_true rfl⟩) rfl hl.1 (Nat.le_of_ble_eq_true rfl) rfl dX8_isKey_3 ⟨Nat.zero_le _, Nat.zero_le _⟩ (fun H locs hH => ?_)
  have hH : zH D cs LNo α M (zA LNo.length α) s H locs := hH
  obtain ⟨h3, hF⟩ := zg_e hF
  refine z_if_eq (tgt := 23) hx hb h3 dX8_isKey_6 (by decide) (fun hc => ?_) (fun hc => ?_)
  · have hF := zi_t hF hc
    refine z_iconst hx hb dX8_isKey_23 ?_
    exact z_iretP hX hr hlocks hH hF rfl dX8_isKey_24
  · have hF := zi_f hF hc
    refine lv_iload_n hx hb dX8_isKey_9 rfl (lv_at hl 1 rfl) ?_
    refine z_iconst hx hb dX8_isKey_10 ?_
    refine z_bipush (v := 99) hx hb dX8_isKey_11 (by decide +kernel) ?_
    obtain ⟨r4, c5, hF⟩ := zc_e hF
    refine z_callSi (As := [.int (nZ a2), .int (nZ (0:Int)), .int (nZ (99:Int))]) (is := []) (Ll := []) hX hH rfl (ctX8_in l D cs (zsb [] α) N (zpk [] M) a2 (0:Int) (99:Int) r4 c5) (va_cwS 3 hts gX8_isKey_X8_in rfl rfl rfl (by decide +kernel) ⟨Nat.le_of_ble_eq_true rfl, Nat.le_of_ble_eq_true rfl⟩) rfl hl.1 (Nat.le_of_ble_eq_true rfl) rfl dX8_isKey_13 ⟨Nat.zero_le _, Nat.zero_le _⟩ (fun H locs hH => ?_)
    have hH : zH D cs LNo α M (zA LNo.length α) s H locs := hH
    obtain ⟨h6, hF⟩ := zg_e hF
    refine z_if_eq (tgt := 23) hx hb h6 dX8_isKey_16 (by decide) (fun hc => ?_) (fun hc => ?_)
    · have hF := zi_t hF hc
      refine z_iconst hx hb dX8_isKey_23 ?_
      exact z_iretP hX hr hlocks hH hF rfl dX8_isKey_24
    · have hF := zi_f hF hc
      refine z_iconst hx hb dX8_isKey_19 ?_
      refine lv_goto (tgt := 24) hx hb dX8_isKey_20 (by decide) ?_
      exact z_iretP hX hr hlocks hH hF rfl dX8_isKey_24
set_option maxHeartbeats 4000000 in
set_option maxRecDepth 100000 in
theorem ctX8_copy (l : Launch) (D : va_G) (cs : Nat → ClassId) (α : Nat → Nat) (N : Nat) (M : zM) (M' : zM) (hF : fX8_copy N M = some M') : Met l yX8_copy wsX8_copy ({ frames := 0, cells := 0, slots := 0, locals := 0 }) (zPre D cs LCp α M [.ref (α 0), .ref (α 1)]) (zQv D cs LCp α M') 0 0 (zA LCp.length α) := by
  refine z_met (cc := cX8_copy) (maxL := 3) (ret := none) (by decide +kernel) rfl RX8 rfl (Nat.le_of_ble_eq_true rfl) ?_
  intro p e s m below meth c ls hX hr hlocks hH hl
  have hx := hX.1.1
  have hb := hX.1.2.1
  have hts := hX.1.2.2.2.2
  have L2 : ∀ (n : Nat) (x2 : Int) (M0 : zM), fX8_copy_2 N n x2 M0 = some M' → zGo p l e (headSpec wsX8_copy ({ frames := 0, cells := 0, slots := 0, locals := 0 })).room s m ([.ref (α 0), .ref (α 1)] : List Value).toArray below meth c (MQ below (zQv D cs LCp α M') ([.ref (α 0), .ref (α 1)] : List Value).toArray s 0 0 (zA LCp.length α)) D cs LCp α (zA LCp.length α) 3 2 [(0, .ref (α 0)), (1, .ref (α 1)), (2, .int (nZ x2))] [] M0 := by
    intro  n
    induction n with
    | zero =>
      intro x2 M0 hF
      have hF : (none : Option zM) = some M' := hF
      cases hF
    | succ n hk2 =>
      intro x2 M0 hF H locs ls hH hl
      have hF : sX8_copy_2 N (fun x2 M0 => fX8_copy_2 N n x2 M0) x2 M0 = some M' := hF
      unfold sX8_copy_2 at hF
      refine lv_iload_n hx hb dX8_copy_2 rfl (lv_at hl 2 rfl) ?_
      refine z_sipush (v := 3253) hx hb dX8_copy_3 (by decide +kernel) ?_
      obtain ⟨h2, hF⟩ := zg_e hF
      refine z_icmp_ge (tgt := 21) hx hb h2 (by decide) dX8_copy_6 (by decide) (fun hc => ?_) (fun hc => ?_)
      · have hF := zi_t hF hc
        exact z_vret hX hr hlocks hH hF dX8_copy_21
      · have hF := zi_f hF hc
        refine lv_aload_n hx hb dX8_copy_9 rfl (lv_at hl 1 rfl) ?_
        refine lv_iload_n hx hb dX8_copy_10 rfl (lv_at hl 2 rfl) ?_
        refine lv_aload_n hx hb dX8_copy_11 rfl (lv_at hl 0 rfl) ?_
        refine lv_iload_n hx hb dX8_copy_12 rfl (lv_at hl 2 rfl) ?_
        obtain ⟨h3, hF⟩ := zg_e hF
        refine z_iald hX hH 0 3253 rfl h3 (by decide) dX8_copy_13 ?_
        obtain ⟨M4, eM4, hF⟩ := zl_e hF
        refine z_iast hX hH 1 3253 eM4 rfl h3 (by decide) dX8_copy_14 (fun H locs hH => ?_)
        obtain ⟨v5, ev5, hF⟩ := zl_e hF
        refine z_iinc ev5 (lv' := [(2, .int (nZ v5)), (0, .ref (α 0)), (1, .ref (α 1))]) hx hb dX8_copy_15 hl (k := 2) rfl (by decide) rfl (fun ls hl => ?_)
        refine lv_goto (tgt := 2) hx hb dX8_copy_18 (by decide) ?_
        exact hk2 v5 M4 hF _ _ _ hH (lv_sub hl [1, 2, 0] rfl)
  have hl : lv_has ls 3 [(0, .ref (α 0)), (1, .ref (α 1))] := hl
  unfold fX8_copy at hF
  refine z_iconst hx hb dX8_copy_0 ?_
  obtain ⟨v1, ev1, hF⟩ := zl_e hF
  refine z_istore_n ev1 (lv' := [(2, .int (nZ v1)), (0, .ref (α 0)), (1, .ref (α 1))]) hx hb dX8_copy_1 rfl hl (by decide) rfl (fun ls hl => ?_)
  exact L2 N v1 M hF _ _ _ hH (lv_sub hl [1, 2, 0] rfl)
theorem flX8_goes_11 : zF RX8 wsX8_goes 11 8 0 := ⟨_, TX8, _, rfl, by decide +kernel, by decide +kernel, by decide, rfl⟩
set_option maxHeartbeats 4000000 in
set_option maxRecDepth 100000 in
theorem ctX8_goes (l : Launch) (D : va_G) (cs : Nat → ClassId) (α : Nat → Nat) (N : Nat) (M : zM) (a1 : Int) (a2 : Int) (M' : zM) (hF : fX8_goes N a1 a2 M = some M') : Met l yX8_goes wsX8_goes ({ frames := 0, cells := 0, slots := 0, locals := 0 }) (zPre D cs LM α M [.ref (α 0), .int (nZ a1), .int (nZ a2)]) (zQv D cs LM α M') 0 0 (zA LM.length α) := by
  refine z_met (cc := cX8_goes) (maxL := 3) (ret := none) (by decide +kernel) rfl RX8 rfl (Nat.le_of_ble_eq_true rfl) ?_
  intro p e s m below meth c ls hX hr hlocks hH hl
  have hx := hX.1.1
  have hb := hX.1.2.1
  have hts := hX.1.2.2.2.2
  have hl : lv_has ls 3 [(0, .ref (α 0)), (1, .int (nZ a1)), (2, .int (nZ a2))] := hl
  unfold fX8_goes at hF
  refine lv_aload_n hx hb dX8_goes_0 rfl (lv_at hl 0 rfl) ?_
  refine z_getr hX hH 0 0 1 rfl rfl flX8_goes_11 dX8_goes_1 ?_
  refine z_sipush (v := 3204) hx hb dX8_goes_4 (by decide +kernel) ?_
  refine lv_aload_n hx hb dX8_goes_7 rfl (lv_at hl 0 rfl) ?_
  refine z_getr hX hH 0 0 1 rfl rfl flX8_goes_11 dX8_goes_8 ?_
  refine z_iconst hx hb dX8_goes_11 ?_
  refine lv_iload_n hx hb dX8_goes_12 rfl (lv_at hl 1 rfl) ?_
  refine z_iadd hx hb dX8_goes_13 ?_
  obtain ⟨h1, hF⟩ := zg_e hF
  refine z_iald hX hH 1 3253 rfl h1 (by decide) dX8_goes_14 ?_
  refine z_iadd hx hb dX8_goes_15 ?_
  refine lv_dup2_11 hx hb dX8_goes_16 rfl rfl ?_
  obtain ⟨h2, hF⟩ := zg_e hF
  refine z_iald hX hH 1 3253 rfl h2 (by decide) dX8_goes_17 ?_
  refine lv_aload_n hx hb dX8_goes_18 rfl (lv_at hl 0 rfl) ?_
  refine z_getr hX hH 0 0 1 rfl rfl flX8_goes_11 dX8_goes_19 ?_
  refine z_sipush (v := 800) hx hb dX8_goes_22 (by decide +kernel) ?_
  refine lv_iload_n hx hb dX8_goes_25 rfl (lv_at hl 1 rfl) ?_
  refine z_iadd hx hb dX8_goes_26 ?_
  obtain ⟨h3, hF⟩ := zg_e hF
  refine z_iald hX hH 1 3253 rfl h3 (by decide) dX8_goes_27 ?_
  refine z_isub hx hb dX8_goes_28 ?_
  obtain ⟨M4, eM4, hF⟩ := zl_e hF
  refine z_iast hX hH 1 3253 eM4 rfl h2 (by decide) dX8_goes_29 (fun H locs hH => ?_)
  refine lv_aload_n hx hb dX8_goes_30 rfl (lv_at hl 0 rfl) ?_
  refine z_getr hX hH 0 0 1 rfl rfl flX8_goes_11 dX8_goes_31 ?_
  refine z_iconst hx hb dX8_goes_34 ?_
  refine lv_iload_n hx hb dX8_goes_35 rfl (lv_at hl 1 rfl) ?_
  refine z_iadd hx hb dX8_goes_36 ?_
  refine lv_iload_n hx hb dX8_goes_37 rfl (lv_at hl 2 rfl) ?_
  obtain ⟨M5, eM5, hF⟩ := zl_e hF
  refine z_iast hX hH 1 3253 eM5 rfl h1 (by decide) dX8_goes_38 (fun H locs hH => ?_)
  refine lv_aload_n hx hb dX8_goes_39 rfl (lv_at hl 0 rfl) ?_
  refine z_getr hX hH 0 0 1 rfl rfl flX8_goes_11 dX8_goes_40 ?_
  refine z_sipush (v := 3204) hx hb dX8_goes_43 (by decide +kernel) ?_
  refine lv_iload_n hx hb dX8_goes_46 rfl (lv_at hl 2 rfl) ?_
  refine z_iadd hx hb dX8_goes_47 ?_
  refine lv_dup2_11 hx hb dX8_goes_48 rfl rfl ?_
  obtain ⟨h6, hF⟩ := zg_e hF
  refine z_iald hX hH 1 3253 rfl h6 (by decide) dX8_goes_49 ?_
  refine lv_aload_n hx hb dX8_goes_50 rfl (lv_at hl 0 rfl) ?_
  refine z_getr hX hH 0 0 1 rfl rfl flX8_goes_11 dX8_goes_51 ?_
  refine z_sipush (v := 800) hx hb dX8_goes_54 (by decide +kernel) ?_
  refine lv_iload_n hx hb dX8_goes_57 rfl (lv_at hl 1 rfl) ?_
  refine z_iadd hx hb dX8_goes_58 ?_
  refine z_iald hX hH 1 3253 rfl h3 (by decide) dX8_goes_59 ?_
  refine z_iadd hx hb dX8_goes_60 ?_
  obtain ⟨M7, eM7, hF⟩ := zl_e hF
  refine z_iast hX hH 1 3253 eM7 rfl h6 (by decide) dX8_goes_61 (fun H locs hH => ?_)
  refine lv_aload_n hx hb dX8_goes_62 rfl (lv_at hl 0 rfl) ?_
  refine z_getr hX hH 0 0 1 rfl rfl flX8_goes_11 dX8_goes_63 ?_
  refine z_sipush (v := 2800) hx hb dX8_goes_66 (by decide +kernel) ?_
  refine lv_iload_n hx hb dX8_goes_69 rfl (lv_at hl 1 rfl) ?_
  refine z_iadd hx hb dX8_goes_70 ?_
  refine lv_aload_n hx hb dX8_goes_71 rfl (lv_at hl 0 rfl) ?_
  refine z_getr hX hH 0 0 1 rfl rfl flX8_goes_11 dX8_goes_72 ?_
  refine z_sipush (v := 3215) hx hb dX8_goes_75 (by decide +kernel) ?_
  refine lv_dup2_11 hx hb dX8_goes_78 rfl rfl ?_
  refine z_iald hX hH 1 3253 rfl (by decide) (by decide) dX8_goes_79 ?_
  refine lv_dup_x2 hx hb dX8_goes_80 rfl rfl rfl ?_
  refine z_iconst hx hb dX8_goes_81 ?_
  refine z_iadd hx hb dX8_goes_82 ?_
  obtain ⟨M8, eM8, hF⟩ := zl_e hF
  refine z_iast hX hH 1 3253 eM8 rfl (by decide) (by decide) dX8_goes_83 (fun H locs hH => ?_)
  obtain ⟨h9, hF⟩ := zg_e hF
  obtain ⟨M10, eM10, hF⟩ := zl_e hF
  refine z_iast hX hH 1 3253 eM10 rfl h9 (by decide) dX8_goes_84 (fun H locs hH => ?_)
  exact z_vret hX hr hlocks hH hF dX8_goes_85
theorem flX8_weighs_11 : zF RX8 wsX8_weighs 11 8 0 := ⟨_, TX8, _, rfl, by decide +kernel, by decide +kernel, by decide, rfl⟩
set_option maxHeartbeats 4000000 in
set_option maxRecDepth 100000 in
theorem ctX8_weighs (l : Launch) (D : va_G) (cs : Nat → ClassId) (α : Nat → Nat) (N : Nat) (M : zM) (a1 : Int) (a2 : Int) (M' : zM) (hF : fX8_weighs N a1 a2 M = some M') : Met l yX8_weighs wsX8_weighs ({ frames := 0, cells := 0, slots := 0, locals := 0 }) (zPre D cs LM α M [.ref (α 0), .int (nZ a1), .int (nZ a2)]) (zQv D cs LM α M') 0 0 (zA LM.length α) := by
  refine z_met (cc := cX8_weighs) (maxL := 3) (ret := none) (by decide +kernel) rfl RX8 rfl (Nat.le_of_ble_eq_true rfl) ?_
  intro p e s m below meth c ls hX hr hlocks hH hl
  have hx := hX.1.1
  have hb := hX.1.2.1
  have hts := hX.1.2.2.2.2
  have hl : lv_has ls 3 [(0, .ref (α 0)), (1, .int (nZ a1)), (2, .int (nZ a2))] := hl
  unfold fX8_weighs at hF
  refine lv_aload_n hx hb dX8_weighs_0 rfl (lv_at hl 0 rfl) ?_
  refine z_getr hX hH 0 0 1 rfl rfl flX8_weighs_11 dX8_weighs_1 ?_
  refine z_sipush (v := 3204) hx hb dX8_weighs_4 (by decide +kernel) ?_
  refine lv_aload_n hx hb dX8_weighs_7 rfl (lv_at hl 0 rfl) ?_
  refine z_getr hX hH 0 0 1 rfl rfl flX8_weighs_11 dX8_weighs_8 ?_
  refine z_iconst hx hb dX8_weighs_11 ?_
  refine lv_iload_n hx hb dX8_weighs_12 rfl (lv_at hl 1 rfl) ?_
  refine z_iadd hx hb dX8_weighs_13 ?_
  obtain ⟨h1, hF⟩ := zg_e hF
  refine z_iald hX hH 1 3253 rfl h1 (by decide) dX8_weighs_14 ?_
  refine z_iadd hx hb dX8_weighs_15 ?_
  refine lv_dup2_11 hx hb dX8_weighs_16 rfl rfl ?_
  obtain ⟨h2, hF⟩ := zg_e hF
  refine z_iald hX hH 1 3253 rfl h2 (by decide) dX8_weighs_17 ?_
  refine lv_iload_n hx hb dX8_weighs_18 rfl (lv_at hl 2 rfl) ?_
  refine lv_aload_n hx hb dX8_weighs_19 rfl (lv_at hl 0 rfl) ?_
  refine z_getr hX hH 0 0 1 rfl rfl flX8_weighs_11 dX8_weighs_20 ?_
  refine z_sipush (v := 800) hx hb dX8_weighs_23 (by decide +kernel) ?_
  refine lv_iload_n hx hb dX8_weighs_26 rfl (lv_at hl 1 rfl) ?_
  refine z_iadd hx hb dX8_weighs_27 ?_
  obtain ⟨h3, hF⟩ := zg_e hF
  refine z_iald hX hH 1 3253 rfl h3 (by decide) dX8_weighs_28 ?_
  refine z_isub hx hb dX8_weighs_29 ?_
  refine z_iadd hx hb dX8_weighs_30 ?_
  obtain ⟨M4, eM4, hF⟩ := zl_e hF
  refine z_iast hX hH 1 3253 eM4 rfl h2 (by decide) dX8_weighs_31 (fun H locs hH => ?_)
  refine lv_aload_n hx hb dX8_weighs_32 rfl (lv_at hl 0 rfl) ?_
  refine z_getr hX hH 0 0 1 rfl rfl flX8_weighs_11 dX8_weighs_33 ?_
  refine z_sipush (v := 800) hx hb dX8_weighs_36 (by decide +kernel) ?_
  refine lv_iload_n hx hb dX8_weighs_39 rfl (lv_at hl 1 rfl) ?_
  refine z_iadd hx hb dX8_weighs_40 ?_
  refine lv_iload_n hx hb dX8_weighs_41 rfl (lv_at hl 2 rfl) ?_
  obtain ⟨M5, eM5, hF⟩ := zl_e hF
  refine z_iast hX hH 1 3253 eM5 rfl h3 (by decide) dX8_weighs_42 (fun H locs hH => ?_)
  exact z_vret hX hr hlocks hH hF dX8_weighs_43
theorem flX8_isThing_11 : zF RX8 wsX8_isThing 11 8 0 := ⟨_, TX8, _, rfl, by decide +kernel, by decide +kernel, by decide, rfl⟩
set_option maxHeartbeats 4000000 in
set_option maxRecDepth 100000 in
theorem ctX8_isThing (l : Launch) (D : va_G) (cs : Nat → ClassId) (α : Nat → Nat) (N : Nat) (M : zM) (a1 : Int) (r : Int) (M' : zM) (hF : fX8_isThing N a1 M = some (r, M')) : Met l yX8_isThing wsX8_isThing ({ frames := 0, cells := 0, slots := 0, locals := 0 }) (zPre D cs LM α M [.ref (α 0), .int (nZ a1)]) (zQi D cs LM α r M') 0 0 (zA LM.length α) := by
  refine z_met (cc := cX8_isThing) (maxL := 2) (ret := (some .boolean)) (by decide +kernel) rfl RX8 rfl (Nat.le_of_ble_eq_true rfl) ?_
  intro p e s m below meth c ls hX hr hlocks hH hl
  have hx := hX.1.1
  have hb := hX.1.2.1
  have hts := hX.1.2.2.2.2
  have J24 : ∀ (M0 : zM), sX8_isThing_24 N M0 = some (r, M') → zGo p l e (headSpec wsX8_isThing ({ frames := 0, cells := 0, slots := 0, locals := 0 })).room s m ([.ref (α 0), .int (nZ a1)] : List Value).toArray below meth c (MQ below (zQi D cs LM α r M') ([.ref (α 0), .int (nZ a1)] : List Value).toArray s 0 0 (zA LM.length α)) D cs LM α (zA LM.length α) 2 24 [] [] M0 := by
    intro M0 hF H locs ls hH hl
    unfold sX8_isThing_24 at hF
    refine z_iconst hx hb dX8_isThing_24 ?_
    refine lv_goto (tgt := 29) hx hb dX8_isThing_25 (by decide) ?_
    exact z_iret hX hr hlocks hH hF rfl dX8_isThing_29
  have hl : lv_has ls 2 [(0, .ref (α 0)), (1, .int (nZ a1))] := hl
  unfold fX8_isThing at hF
  refine lv_aload_n hx hb dX8_isThing_0 rfl (lv_at hl 0 rfl) ?_
  refine z_getr hX hH 0 0 1 rfl rfl flX8_isThing_11 dX8_isThing_1 ?_
  refine z_iconst hx hb dX8_isThing_4 ?_
  refine lv_iload_n hx hb dX8_isThing_5 rfl (lv_at hl 1 rfl) ?_
  refine z_iadd hx hb dX8_isThing_6 ?_
  obtain ⟨h1, hF⟩ := zg_e hF
  refine z_iald hX hH 1 3253 rfl h1 (by decide) dX8_isThing_7 ?_
  refine z_iconst hx hb dX8_isThing_8 ?_
  obtain ⟨h2, hF⟩ := zg_e hF
  refine z_icmp_eq (tgt := 24) hx hb h2 (by decide) dX8_isThing_9 (by decide) (fun hc => ?_) (fun hc => ?_)
  · have hF := zi_t hF hc
    exact J24 M hF _ _ _ hH (lv_sub hl [] rfl)
  · have hF := zi_f hF hc
    refine lv_aload_n hx hb dX8_isThing_12 rfl (lv_at hl 0 rfl) ?_
    refine z_getr hX hH 0 0 1 rfl rfl flX8_isThing_11 dX8_isThing_13 ?_
    refine z_iconst hx hb dX8_isThing_16 ?_
    refine lv_iload_n hx hb dX8_isThing_17 rfl (lv_at hl 1 rfl) ?_
    refine z_iadd hx hb dX8_isThing_18 ?_
    refine z_iald hX hH 1 3253 rfl h1 (by decide) dX8_isThing_19 ?_
    refine z_iconst hx hb dX8_isThing_20 ?_
    refine z_icmp_ne (tgt := 28) hx hb h2 (by decide) dX8_isThing_21 (by decide) (fun hc => ?_) (fun hc => ?_)
    · have hF := zi_f hF hc
      refine z_iconst hx hb dX8_isThing_28 ?_
      exact z_iret hX hr hlocks hH hF rfl dX8_isThing_29
    · have hF := zi_t hF hc
      exact J24 M hF _ _ _ hH (lv_sub hl [] rfl)
theorem flX8_oldest_11 : zF RX8 wsX8_oldest 11 8 0 := ⟨_, TX8, _, rfl, by decide +kernel, by decide +kernel, by decide, rfl⟩
set_option maxHeartbeats 4000000 in
set_option maxRecDepth 100000 in
theorem ctX8_oldest (l : Launch) (D : va_G) (cs : Nat → ClassId) (α : Nat → Nat) (N : Nat) (M : zM) (a1 : Int) (a2 : Int) (r : Int) (M' : zM) (hF : fX8_oldest N a1 a2 M = some (r, M')) : Met l yX8_oldest wsX8_oldest ({ frames := 0, cells := 0, slots := 0, locals := 0 }) (zPre D cs LM α M [.ref (α 0), .int (nZ a1), .int (nZ a2)]) (zQi D cs LM α r M') 0 0 (zA LM.length α) := by
  refine z_met (cc := cX8_oldest) (maxL := 5) (ret := (some .int)) (by decide +kernel) rfl RX8 rfl (Nat.le_of_ble_eq_true rfl) ?_
  intro p e s m below meth c ls hX hr hlocks hH hl
  have hx := hX.1.1
  have hb := hX.1.2.1
  have hts := hX.1.2.2.2.2
  have J76 : ∀ (k5 : Int → Int → Int → Int → zM → Option (Int × zM)) (hk5 : ∀ (x1 : Int) (x2 : Int) (x3 : Int) (x4 : Int) (M0 : zM), k5 x1 x2 x3 x4 M0 = some (r, M') → zGo p l e (headSpec wsX8_oldest ({ frames := 0, cells := 0, slots := 0, locals := 0 })).room s m ([.ref (α 0), .int (nZ a1), .int (nZ a2)] : List Value).toArray below meth c (MQ below (zQi D cs LM α r M') ([.ref (α 0), .int (nZ a1), .int (nZ a2)] : List Value).toArray s 0 0 (zA LM.length α)) D cs LM α (zA LM.length α) 5 5 [(0, .ref (α 0)), (1, .int (nZ x1)), (2, .int (nZ x2)), (3, .int (nZ x3)), (4, .int (nZ x4))] [] M0) (x1 : Int) (x2 : Int) (x3 : Int) (x4 : Int) (M0 : zM), sX8_oldest_76 N k5 x1 x2 x3 x4 M0 = some (r, M') → zGo p l e (headSpec wsX8_oldest ({ frames := 0, cells := 0, slots := 0, locals := 0 })).room s m ([.ref (α 0), .int (nZ a1), .int (nZ a2)] : List Value).toArray below meth c (MQ below (zQi D cs LM α r M') ([.ref (α 0), .int (nZ a1), .int (nZ a2)] : List Value).toArray s 0 0 (zA LM.length α)) D cs LM α (zA LM.length α) 5 76 [(0, .ref (α 0)), (1, .int (nZ x1)), (2, .int (nZ x2)), (3, .int (nZ x3)), (4, .int (nZ x4))] [] M0 := by
    intro k5 hk5 x1 x2 x3 x4 M0 hF H locs ls hH hl
    unfold sX8_oldest_76 at hF
    obtain ⟨v7, ev7, hF⟩ := zl_e hF
    refine z_iinc ev7 (lv' := [(4, .int (nZ v7)), (0, .ref (α 0)), (1, .int (nZ x1)), (2, .int (nZ x2)), (3, .int (nZ x3))]) hx hb dX8_oldest_76 hl (k := 4) rfl (by decide) rfl (fun ls hl => ?_)
    refine lv_goto (tgt := 5) hx hb dX8_oldest_79 (by decide) ?_
    exact hk5 x1 x2 x3 v7 M0 hF _ _ _ hH (lv_sub hl [1, 2, 3, 4, 0] rfl)
  have J73 : ∀ (k5 : Int → Int → Int → Int → zM → Option (Int × zM)) (hk5 : ∀ (x1 : Int) (x2 : Int) (x3 : Int) (x4 : Int) (M0 : zM), k5 x1 x2 x3 x4 M0 = some (r, M') → zGo p l e (headSpec wsX8_oldest ({ frames := 0, cells := 0, slots := 0, locals := 0 })).room s m ([.ref (α 0), .int (nZ a1), .int (nZ a2)] : List Value).toArray below meth c (MQ below (zQi D cs LM α r M') ([.ref (α 0), .int (nZ a1), .int (nZ a2)] : List Value).toArray s 0 0 (zA LM.length α)) D cs LM α (zA LM.length α) 5 5 [(0, .ref (α 0)), (1, .int (nZ x1)), (2, .int (nZ x2)), (3, .int (nZ x3)), (4, .int (nZ x4))] [] M0) (x1 : Int) (x2 : Int) (x4 : Int) (M0 : zM), sX8_oldest_73 N k5 x1 x2 x4 M0 = some (r, M') → zGo p l e (headSpec wsX8_oldest ({ frames := 0, cells := 0, slots := 0, locals := 0 })).room s m ([.ref (α 0), .int (nZ a1), .int (nZ a2)] : List Value).toArray below meth c (MQ below (zQi D cs LM α r M') ([.ref (α 0), .int (nZ a1), .int (nZ a2)] : List Value).toArray s 0 0 (zA LM.length α)) D cs LM α (zA LM.length α) 5 73 [(0, .ref (α 0)), (1, .int (nZ x1)), (2, .int (nZ x2)), (4, .int (nZ x4))] [] M0 := by
    intro k5 hk5 x1 x2 x4 M0 hF H locs ls hH hl
    unfold sX8_oldest_73 at hF
    refine lv_iload hx hb dX8_oldest_73 (lv_at hl 3 rfl) ?_
    obtain ⟨v10, ev10, hF⟩ := zl_e hF
    refine z_istore_n ev10 (lv' := [(3, .int (nZ v10)), (0, .ref (α 0)), (1, .int (nZ x1)), (2, .int (nZ x2)), (4, .int (nZ x4))]) hx hb dX8_oldest_75 rfl hl (by decide) rfl (fun ls hl => ?_)
    exact J76 k5 hk5 x1 x2 v10 x4 M0 hF _ _ _ hH (lv_sub hl [1, 2, 3, 0, 4] rfl)
  have J45 : ∀ (k5 : Int → Int → Int → Int → zM → Option (Int × zM)) (hk5 : ∀ (x1 : Int) (x2 : Int) (x3 : Int) (x4 : Int) (M0 : zM), k5 x1 x2 x3 x4 M0 = some (r, M') → zGo p l e (headSpec wsX8_oldest ({ frames := 0, cells := 0, slots := 0, locals := 0 })).room s m ([.ref (α 0), .int (nZ a1), .int (nZ a2)] : List Value).toArray below meth c (MQ below (zQi D cs LM α r M') ([.ref (α 0), .int (nZ a1), .int (nZ a2)] : List Value).toArray s 0 0 (zA LM.length α)) D cs LM α (zA LM.length α) 5 5 [(0, .ref (α 0)), (1, .int (nZ x1)), (2, .int (nZ x2)), (3, .int (nZ x3)), (4, .int (nZ x4))] [] M0) (x1 : Int) (x2 : Int) (x3 : Int) (x4 : Int) (M0 : zM), sX8_oldest_45 N k5 x1 x2 x3 x4 M0 = some (r, M') → zGo p l e (headSpec wsX8_oldest ({ frames := 0, cells := 0, slots := 0, locals := 0 })).room s m ([.ref (α 0), .int (nZ a1), .int (nZ a2)] : List Value).toArray below meth c (MQ below (zQi D cs LM α r M') ([.ref (α 0), .int (nZ a1), .int (nZ a2)] : List Value).toArray s 0 0 (zA LM.length α)) D cs LM α (zA LM.length α) 5 45 [(0, .ref (α 0)), (1, .int (nZ x1)), (2, .int (nZ x2)), (3, .int (nZ x3)), (4, .int (nZ x4))] [] M0 := by
    intro k5 hk5 x1 x2 x3 x4 M0 hF H locs ls hH hl
    unfold sX8_oldest_45 at hF
    refine lv_iload_n hx hb dX8_oldest_45 rfl (lv_at hl 3 rfl) ?_
    obtain ⟨h9, hF⟩ := zg_e hF
    refine z_if_lt (tgt := 73) hx hb h9 dX8_oldest_46 (by decide) (fun hc => ?_) (fun hc => ?_)
    · have hF := zi_t hF hc
      exact J73 k5 hk5 x1 x2 x4 M0 hF _ _ _ hH (lv_sub hl [0, 1, 2, 4] rfl)
    · have hF := zi_f hF hc
      refine lv_aload_n hx hb dX8_oldest_49 rfl (lv_at hl 0 rfl) ?_
      refine z_getr hX hH 0 0 1 rfl rfl flX8_oldest_11 dX8_oldest_50 ?_
      refine z_sipush (v := 2800) hx hb dX8_oldest_53 (by decide +kernel) ?_
      refine lv_iload hx hb dX8_oldest_56 (lv_at hl 4 rfl) ?_
      refine z_iadd hx hb dX8_oldest_58 ?_
      obtain ⟨h11, hF⟩ := zg_e hF
      refine z_iald hX hH 1 3253 rfl h11 (by decide) dX8_oldest_59 ?_
      refine lv_aload_n hx hb dX8_oldest_60 rfl (lv_at hl 0 rfl) ?_
      refine z_getr hX hH 0 0 1 rfl rfl flX8_oldest_11 dX8_oldest_61 ?_
      refine z_sipush (v := 2800) hx hb dX8_oldest_64 (by decide +kernel) ?_
      refine lv_iload_n hx hb dX8_oldest_67 rfl (lv_at hl 3 rfl) ?_
      refine z_iadd hx hb dX8_oldest_68 ?_
      obtain ⟨h12, hF⟩ := zg_e hF
      refine z_iald hX hH 1 3253 rfl h12 (by decide) dX8_oldest_69 ?_
      obtain ⟨h13, hF⟩ := zg_e hF
      obtain ⟨h14, hF⟩ := zg_e hF
      refine z_icmp_ge (tgt := 76) hx hb h13 h14 dX8_oldest_70 (by decide) (fun hc => ?_) (fun hc => ?_)
      · have hF := zi_t hF hc
        exact J76 k5 hk5 x1 x2 x3 x4 M0 hF _ _ _ hH (lv_sub hl [0, 1, 2, 3, 4] rfl)
      · have hF := zi_f hF hc
        exact J73 k5 hk5 x1 x2 x4 M0 hF _ _ _ hH (lv_sub hl [0, 1, 2, 4] rfl)
  have L5 : ∀ (n : Nat) (x1 : Int) (x2 : Int) (x3 : Int) (x4 : Int) (M0 : zM), fX8_oldest_5 N n x1 x2 x3 x4 M0 = some (r, M') → zGo p l e (headSpec wsX8_oldest ({ frames := 0, cells := 0, slots := 0, locals := 0 })).room s m ([.ref (α 0), .int (nZ a1), .int (nZ a2)] : List Value).toArray below meth c (MQ below (zQi D cs LM α r M') ([.ref (α 0), .int (nZ a1), .int (nZ a2)] : List Value).toArray s 0 0 (zA LM.length α)) D cs LM α (zA LM.length α) 5 5 [(0, .ref (α 0)), (1, .int (nZ x1)), (2, .int (nZ x2)), (3, .int (nZ x3)), (4, .int (nZ x4))] [] M0 := by
    intro  n
    induction n with
    | zero =>
      intro x1 x2 x3 x4 M0 hF
      have hF : (none : Option (Int × zM)) = some (r, M') := hF
      cases hF
    | succ n hk5 =>
      intro x1 x2 x3 x4 M0 hF H locs ls hH hl
      have hF : sX8_oldest_5 N (fun x1 x2 x3 x4 M0 => fX8_oldest_5 N n x1 x2 x3 x4 M0) x1 x2 x3 x4 M0 = some (r, M') := hF
      unfold sX8_oldest_5 at hF
      refine lv_iload hx hb dX8_oldest_5 (lv_at hl 4 rfl) ?_
      refine z_sipush (v := 400) hx hb dX8_oldest_7 (by decide +kernel) ?_
      obtain ⟨h3, hF⟩ := zg_e hF
      refine z_icmp_ge (tgt := 82) hx hb h3 (by decide) dX8_oldest_10 (by decide) (fun hc => ?_) (fun hc => ?_)
      · have hF := zi_t hF hc
        refine lv_iload_n hx hb dX8_oldest_82 rfl (lv_at hl 3 rfl) ?_
        exact z_iret hX hr hlocks hH hF rfl dX8_oldest_83
      · have hF := zi_f hF hc
        refine lv_aload_n hx hb dX8_oldest_13 rfl (lv_at hl 0 rfl) ?_
        refine z_getr hX hH 0 0 1 rfl rfl flX8_oldest_11 dX8_oldest_14 ?_
        refine z_iconst hx hb dX8_oldest_17 ?_
        refine lv_iload hx hb dX8_oldest_18 (lv_at hl 4 rfl) ?_
        refine z_iadd hx hb dX8_oldest_20 ?_
        obtain ⟨h4, hF⟩ := zg_e hF
        refine z_iald hX hH 1 3253 rfl h4 (by decide) dX8_oldest_21 ?_
        refine lv_iload_n hx hb dX8_oldest_22 rfl (lv_at hl 1 rfl) ?_
        obtain ⟨h5, hF⟩ := zg_e hF
        obtain ⟨h6, hF⟩ := zg_e hF
        refine z_icmp_ne (tgt := 76) hx hb h5 h6 dX8_oldest_23 (by decide) (fun hc => ?_) (fun hc => ?_)
        · have hF := zi_f hF hc
          exact J76 (fun x1 x2 x3 x4 M0 => fX8_oldest_5 N n x1 x2 x3 x4 M0) hk5 x1 x2 x3 x4 M0 hF _ _ _ hH (lv_sub hl [0, 1, 2, 3, 4] rfl)
        · have hF := zi_t hF hc
          refine lv_iload_n hx hb dX8_oldest_26 rfl (lv_at hl 2 rfl) ?_
          obtain ⟨h8, hF⟩ := zg_e hF
          refine z_if_eq (tgt := 45) hx hb h8 dX8_oldest_27 (by decide) (fun hc => ?_) (fun hc => ?_)
          · have hF := zi_t hF hc
            exact J45 (fun x1 x2 x3 x4 M0 => fX8_oldest_5 N n x1 x2 x3 x4 M0) hk5 x1 x2 x3 x4 M0 hF _ _ _ hH (lv_sub hl [0, 1, 2, 3, 4] rfl)
          · have hF := zi_f hF hc
            refine lv_aload_n hx hb dX8_oldest_30 rfl (lv_at hl 0 rfl) ?_
            refine z_getr hX hH 0 0 1 rfl rfl flX8_oldest_11 dX8_oldest_31 ?_
            refine z_sipush (v := 2400) hx hb dX8_oldest_34 (by decide +kernel) ?_
            refine lv_iload hx hb dX8_oldest_37 (lv_at hl 4 rfl) ?_
            refine z_iadd hx hb dX8_oldest_39 ?_
            obtain ⟨h15, hF⟩ := zg_e hF
            refine z_iald hX hH 1 3253 rfl h15 (by decide) dX8_oldest_40 ?_
            refine z_iconst hx hb dX8_oldest_41 ?_
            obtain ⟨h16, hF⟩ := zg_e hF
            refine z_icmp_eq (tgt := 76) hx hb h16 (by decide) dX8_oldest_42 (by decide) (fun hc => ?_) (fun hc => ?_)
            · have hF := zi_t hF hc
              exact J76 (fun x1 x2 x3 x4 M0 => fX8_oldest_5 N n x1 x2 x3 x4 M0) hk5 x1 x2 x3 x4 M0 hF _ _ _ hH (lv_sub hl [0, 1, 2, 3, 4] rfl)
            · have hF := zi_f hF hc
              exact J45 (fun x1 x2 x3 x4 M0 => fX8_oldest_5 N n x1 x2 x3 x4 M0) hk5 x1 x2 x3 x4 M0 hF _ _ _ hH (lv_sub hl [0, 1, 2, 3, 4] rfl)
  have hl : lv_has ls 5 [(0, .ref (α 0)), (1, .int (nZ a1)), (2, .int (nZ a2))] := hl
  unfold fX8_oldest at hF
  refine z_iconst hx hb dX8_oldest_0 ?_
  obtain ⟨v1, ev1, hF⟩ := zl_e hF
  refine z_istore_n ev1 (lv' := [(3, .int (nZ v1)), (0, .ref (α 0)), (1, .int (nZ a1)), (2, .int (nZ a2))]) hx hb dX8_oldest_1 rfl hl (by decide) rfl (fun ls hl => ?_)
  refine z_iconst hx hb dX8_oldest_2 ?_
  obtain ⟨v2, ev2, hF⟩ := zl_e hF
  refine z_istore ev2 (lv' := [(4, .int (nZ v2)), (3, .int (nZ v1)), (0, .ref (α 0)), (1, .int (nZ a1)), (2, .int (nZ a2))]) hx hb dX8_oldest_3 hl (by decide) rfl (fun ls hl => ?_)
  exact L5 N a1 a2 v1 v2 M hF _ _ _ hH (lv_sub hl [2, 3, 4, 1, 0] rfl)
theorem flX8_went_11 : zF RX8 wsX8_went 11 8 0 := ⟨_, TX8, _, rfl, by decide +kernel, by decide +kernel, by decide, rfl⟩
theorem flX8_went_62 : zF RX8 wsX8_went 62 8 5 := ⟨_, TX8, _, rfl, by decide +kernel, by decide +kernel, by decide, rfl⟩
theorem flX8_went_21 : zF RX8 wsX8_went 21 8 4 := ⟨_, TX8, _, rfl, by decide +kernel, by decide +kernel, by decide, rfl⟩
theorem fpX8_went_62 : zFp RX8 wsX8_went 62 8 5 .int := ⟨_, TX8, _, tyX8, rfl, by decide +kernel, by decide +kernel, by decide, rfl, tyX8_ok, nmX8, rfl, by decide +kernel⟩
set_option maxHeartbeats 4000000 in
set_option maxRecDepth 100000 in
theorem ctX8_went (l : Launch) (D : va_G) (cs : Nat → ClassId) (α : Nat → Nat) (N : Nat) (M : zM) (a1 : Int) (a2 : Int) (M' : zM) (hF : fX8_went N a1 a2 M = some M') : Met l yX8_went wsX8_went ({ frames := 1, cells := 0, slots := 0, locals := 22 }) (zPre D cs LM α M [.ref (α 0), .int (nZ a1), .int (nZ a2)]) (zQv D cs LM α M') 0 0 (zA LM.length α) := by
  refine z_met (cc := cX8_went) (maxL := 4) (ret := none) (by decide +kernel) rfl RX8 rfl (Nat.le_of_ble_eq_true rfl) ?_
  intro p e s m below meth c ls hX hr hlocks hH hl
  have hx := hX.1.1
  have hb := hX.1.2.1
  have hts := hX.1.2.2.2.2
  have L20 : ∀ (n : Nat) (x1 : Int) (x3 : Int) (M0 : zM), fX8_went_20 N n x1 x3 M0 = some M' → zGo p l e (headSpec wsX8_went ({ frames := 1, cells := 0, slots := 0, locals := 22 })).room s m ([.ref (α 0), .int (nZ a1), .int (nZ a2)] : List Value).toArray below meth c (MQ below (zQv D cs LM α M') ([.ref (α 0), .int (nZ a1), .int (nZ a2)] : List Value).toArray s 0 0 (zA LM.length α)) D cs LM α (zA LM.length α) 4 20 [(0, .ref (α 0)), (1, .int (nZ x1)), (3, .int (nZ x3))] [] M0 := by
    intro  n
    induction n with
    | zero =>
      intro x1 x3 M0 hF
      have hF : (none : Option zM) = some M' := hF
      cases hF
    | succ n hk20 =>
      intro x1 x3 M0 hF H locs ls hH hl
      have hF : sX8_went_20 N (fun x1 x3 M0 => fX8_went_20 N n x1 x3 M0) x1 x3 M0 = some M' := hF
      unfold sX8_went_20 at hF
      refine lv_iload_n hx hb dX8_went_20 rfl (lv_at hl 2 rfl) ?_
      obtain ⟨h6, hF⟩ := zg_e hF
      refine z_if_le (tgt := 52) hx hb h6 dX8_went_21 (by decide) (fun hc => ?_) (fun hc => ?_)
      · have hF := zi_t hF hc
        refine lv_aload_n hx hb dX8_went_52 rfl (lv_at hl 0 rfl) ?_
        refine z_getr hX hH 0 0 1 rfl rfl flX8_went_11 dX8_went_53 ?_
        refine z_sipush (v := 3216) hx hb dX8_went_56 (by decide +kernel) ?_
        refine lv_iload_n hx hb dX8_went_59 rfl (lv_at hl 1 rfl) ?_
        obtain ⟨M7, eM7, hF⟩ := zl_e hF
        refine z_iast hX hH 1 3253 eM7 rfl (by decide) (by decide) dX8_went_60 (fun H locs hH => ?_)
        refine lv_aload_n hx hb dX8_went_61 rfl (lv_at hl 0 rfl) ?_
        refine z_getr hX hH 0 0 1 rfl rfl flX8_went_11 dX8_went_62 ?_
        refine z_sipush (v := 3214) hx hb dX8_went_65 (by decide +kernel) ?_
        refine lv_dup2_11 hx hb dX8_went_68 rfl rfl ?_
        refine z_iald hX hH 1 3253 rfl (by decide) (by decide) dX8_went_69 ?_
        refine z_iconst hx hb dX8_went_70 ?_
        refine z_iadd hx hb dX8_went_71 ?_
        obtain ⟨M8, eM8, hF⟩ := zl_e hF
        refine z_iast hX hH 1 3253 eM8 rfl (by decide) (by decide) dX8_went_72 (fun H locs hH => ?_)
        refine lv_aload_n hx hb dX8_went_73 rfl (lv_at hl 0 rfl) ?_
        refine z_geti hX hH 0 5 rfl rfl flX8_went_62 dX8_went_74 ?_
        refine z_sipush (v := 400) hx hb dX8_went_77 (by decide +kernel) ?_
        obtain ⟨h9, hF⟩ := zg_e hF
        refine z_icmp_ge (tgt := 100) hx hb h9 (by decide) dX8_went_80 (by decide) (fun hc => ?_) (fun hc => ?_)
        · have hF := zi_t hF hc
          exact z_vret hX hr hlocks hH hF dX8_went_100
        · have hF := zi_f hF hc
          refine lv_aload_n hx hb dX8_went_83 rfl (lv_at hl 0 rfl) ?_
          refine z_getr hX hH 0 4 4 rfl rfl flX8_went_21 dX8_went_84 ?_
          refine lv_aload_n hx hb dX8_went_87 rfl (lv_at hl 0 rfl) ?_
          refine lv_dup hx hb dX8_went_88 rfl ?_
          refine z_geti hX hH 0 5 rfl rfl flX8_went_62 dX8_went_89 ?_
          refine lv_dup_x1 hx hb dX8_went_92 rfl rfl ?_
          refine z_iconst hx hb dX8_went_93 ?_
          refine z_iadd hx hb dX8_went_94 ?_
          obtain ⟨M10, eM10, hF⟩ := zl_e hF
          refine z_put hX hH 0 5 eM10 rfl rfl fpX8_went_62 rfl rfl dX8_went_95 (fun H locs hH => ?_)
          refine lv_iload_n hx hb dX8_went_98 rfl (lv_at hl 1 rfl) ?_
          obtain ⟨h11, hF⟩ := zg_e hF
          obtain ⟨M12, eM12, hF⟩ := zl_e hF
          refine z_iast hX hH 4 400 eM12 rfl h11 (by decide) dX8_went_99 (fun H locs hH => ?_)
          exact z_vret hX hr hlocks hH hF dX8_went_100
      · have hF := zi_f hF hc
        refine lv_aload_n hx hb dX8_went_24 rfl (lv_at hl 0 rfl) ?_
        refine z_getr hX hH 0 0 1 rfl rfl flX8_went_11 dX8_went_25 ?_
        refine z_sipush (v := 3216) hx hb dX8_went_28 (by decide +kernel) ?_
        refine lv_iload_n hx hb dX8_went_31 rfl (lv_at hl 2 rfl) ?_
        refine z_iadd hx hb dX8_went_32 ?_
        refine lv_aload_n hx hb dX8_went_33 rfl (lv_at hl 0 rfl) ?_
        refine z_getr hX hH 0 0 1 rfl rfl flX8_went_11 dX8_went_34 ?_
        refine z_sipush (v := 3216) hx hb dX8_went_37 (by decide +kernel) ?_
        refine lv_iload_n hx hb dX8_went_40 rfl (lv_at hl 2 rfl) ?_
        refine z_iadd hx hb dX8_went_41 ?_
        refine z_iconst hx hb dX8_went_42 ?_
        refine z_isub hx hb dX8_went_43 ?_
        obtain ⟨h13, hF⟩ := zg_e hF
        refine z_iald hX hH 1 3253 rfl h13 (by decide) dX8_went_44 ?_
        obtain ⟨h14, hF⟩ := zg_e hF
        obtain ⟨M15, eM15, hF⟩ := zl_e hF
        refine z_iast hX hH 1 3253 eM15 rfl h14 (by decide) dX8_went_45 (fun H locs hH => ?_)
        obtain ⟨v16, ev16, hF⟩ := zl_e hF
        refine z_iinc ev16 (lv' := [(3, .int (nZ v16)), (0, .ref (α 0)), (1, .int (nZ x1))]) hx hb dX8_went_46 hl (k := 2) rfl (by decide) rfl (fun ls hl => ?_)
        refine lv_goto (tgt := 20) hx hb dX8_went_49 (by decide) ?_
        exact hk20 x1 v16 M15 hF _ _ _ hH (lv_sub hl [1, 2, 0] rfl)
  have hl : lv_has ls 4 [(0, .ref (α 0)), (1, .int (nZ a1)), (2, .int (nZ a2))] := hl
  unfold fX8_went at hF
  refine lv_aload_n hx hb dX8_went_0 rfl (lv_at hl 0 rfl) ?_
  refine lv_iload_n hx hb dX8_went_1 rfl (lv_at hl 1 rfl) ?_
  refine lv_iload_n hx hb dX8_went_2 rfl (lv_at hl 2 rfl) ?_
  obtain ⟨M2, c1, hF⟩ := zc_e hF
  refine z_sameVv (As := [.int (nZ a1), .int (nZ a2)]) hX hH 0 8 (ctX8_goes l D cs α N M a1 a2 M2 c1) (cwV 2 hts gX8_went_X8_goes rfl rfl rfl (by decide +kernel) ⟨Nat.le_of_ble_eq_true rfl, Nat.le_of_ble_eq_true rfl⟩) rfl rfl rfl hl.1 (Nat.le_of_ble_eq_true rfl) rfl dX8_went_3 ⟨Nat.zero_le _, Nat.zero_le _⟩ (fun H locs hH => ?_)
  refine lv_aload_n hx hb dX8_went_6 rfl (lv_at hl 0 rfl) ?_
  refine z_getr hX hH 0 0 1 rfl rfl flX8_went_11 dX8_went_7 ?_
  refine z_sipush (v := 2400) hx hb dX8_went_10 (by decide +kernel) ?_
  refine lv_iload_n hx hb dX8_went_13 rfl (lv_at hl 1 rfl) ?_
  refine z_iadd hx hb dX8_went_14 ?_
  refine z_iconst hx hb dX8_went_15 ?_
  obtain ⟨h3, hF⟩ := zg_e hF
  obtain ⟨M4, eM4, hF⟩ := zl_e hF
  refine z_iast hX hH 1 3253 eM4 rfl h3 (by decide) dX8_went_16 (fun H locs hH => ?_)
  refine z_bipush (v := 19) hx hb dX8_went_17 (by decide +kernel) ?_
  obtain ⟨v5, ev5, hF⟩ := zl_e hF
  refine z_istore_n ev5 (lv' := [(3, .int (nZ v5)), (0, .ref (α 0)), (1, .int (nZ a1)), (2, .int (nZ a2))]) hx hb dX8_went_19 rfl hl (by decide) rfl (fun ls hl => ?_)
  exact L20 N a1 v5 M4 hF _ _ _ hH (lv_sub hl [1, 2, 0] rfl)
theorem flX8_sinks_11 : zF RX8 wsX8_sinks 11 8 0 := ⟨_, TX8, _, rfl, by decide +kernel, by decide +kernel, by decide, rfl⟩
set_option maxHeartbeats 4000000 in
set_option maxRecDepth 100000 in
theorem ctX8_sinks (l : Launch) (D : va_G) (cs : Nat → ClassId) (α : Nat → Nat) (N : Nat) (M : zM) (M' : zM) (hF : fX8_sinks N M = some M') : Met l yX8_sinks wsX8_sinks ({ frames := 1, cells := 0, slots := 0, locals := 24 }) (zPre D cs LM α M [.ref (α 0)]) (zQv D cs LM α M') 0 0 (zA LM.length α) := by
  refine z_met (cc := cX8_sinks) (maxL := 2) (ret := none) (by decide +kernel) rfl RX8 rfl (Nat.le_of_ble_eq_true rfl) ?_
  intro p e s m below meth c ls hX hr hlocks hH hl
  have hx := hX.1.1
  have hb := hX.1.2.1
  have hts := hX.1.2.2.2.2
  have L0 : ∀ (n : Nat) (M0 : zM), fX8_sinks_0 N n M0 = some M' → zGo p l e (headSpec wsX8_sinks ({ frames := 1, cells := 0, slots := 0, locals := 24 })).room s m ([.ref (α 0)] : List Value).toArray below meth c (MQ below (zQv D cs LM α M') ([.ref (α 0)] : List Value).toArray s 0 0 (zA LM.length α)) D cs LM α (zA LM.length α) 2 0 [(0, .ref (α 0))] [] M0 := by
    intro  n
    induction n with
    | zero =>
      intro M0 hF
      have hF : (none : Option zM) = some M' := hF
      cases hF
    | succ n hk0 =>
      intro M0 hF H locs ls hH hl
      have hF : sX8_sinks_0 N (fun M0 => fX8_sinks_0 N n M0) M0 = some M' := hF
      unfold sX8_sinks_0 at hF
      refine lv_aload_n hx hb dX8_sinks_0 rfl (lv_at hl 0 rfl) ?_
      refine z_getr hX hH 0 0 1 rfl rfl flX8_sinks_11 dX8_sinks_1 ?_
      refine z_sipush (v := 3206) hx hb dX8_sinks_4 (by decide +kernel) ?_
      refine z_iald hX hH 1 3253 rfl (by decide) (by decide) dX8_sinks_7 ?_
      refine lv_aload_n hx hb dX8_sinks_8 rfl (lv_at hl 0 rfl) ?_
      refine z_getr hX hH 0 0 1 rfl rfl flX8_sinks_11 dX8_sinks_9 ?_
      refine z_sipush (v := 3201) hx hb dX8_sinks_12 (by decide +kernel) ?_
      refine z_iald hX hH 1 3253 rfl (by decide) (by decide) dX8_sinks_15 ?_
      obtain ⟨h1, hF⟩ := zg_e hF
      obtain ⟨h2, hF⟩ := zg_e hF
      refine z_icmp_le (tgt := 51) hx hb h1 h2 dX8_sinks_16 (by decide) (fun hc => ?_) (fun hc => ?_)
      · have hF := zi_t hF hc
        exact z_vret hX hr hlocks hH hF dX8_sinks_51
      · have hF := zi_f hF hc
        refine lv_aload_n hx hb dX8_sinks_19 rfl (lv_at hl 0 rfl) ?_
        refine z_iconst hx hb dX8_sinks_20 ?_
        refine z_iconst hx hb dX8_sinks_21 ?_
        obtain ⟨r5, M4, c3, hF⟩ := zc2_e hF
        refine z_sameVi (As := [.int (nZ (2:Int)), .int (nZ (1:Int))]) hX hH 0 8 (ctX8_oldest l D cs α N M0 (2:Int) (1:Int) r5 M4 c3) (cwV 2 hts gX8_sinks_X8_oldest rfl rfl rfl (by decide +kernel) ⟨Nat.le_of_ble_eq_true rfl, Nat.le_of_ble_eq_true rfl⟩) rfl rfl rfl hl.1 (Nat.le_of_ble_eq_true rfl) rfl dX8_sinks_22 ⟨Nat.zero_le _, Nat.zero_le _⟩ (fun H locs hH => ?_)
        obtain ⟨v6, ev6, hF⟩ := zl_e hF
        refine z_istore_n ev6 (lv' := [(1, .int (nZ v6)), (0, .ref (α 0))]) hx hb dX8_sinks_25 rfl hl (by decide) rfl (fun ls hl => ?_)
        refine lv_iload_n hx hb dX8_sinks_26 rfl (lv_at hl 0 rfl) ?_
        obtain ⟨h7, hF⟩ := zg_e hF
        refine z_if_ge (tgt := 31) hx hb h7 dX8_sinks_27 (by decide) (fun hc => ?_) (fun hc => ?_)
        · have hF := zi_t hF hc
          refine lv_aload_n hx hb dX8_sinks_31 rfl (lv_at hl 1 rfl) ?_
          refine z_getr hX hH 0 0 1 rfl rfl flX8_sinks_11 dX8_sinks_32 ?_
          refine z_sipush (v := 1600) hx hb dX8_sinks_35 (by decide +kernel) ?_
          refine lv_iload_n hx hb dX8_sinks_38 rfl (lv_at hl 0 rfl) ?_
          refine z_iadd hx hb dX8_sinks_39 ?_
          refine z_iconst hx hb dX8_sinks_40 ?_
          obtain ⟨h8, hF⟩ := zg_e hF
          obtain ⟨M9, eM9, hF⟩ := zl_e hF
          refine z_iast hX hH 1 3253 eM9 rfl h8 (by decide) dX8_sinks_41 (fun H locs hH => ?_)
          refine lv_aload_n hx hb dX8_sinks_42 rfl (lv_at hl 1 rfl) ?_
          refine lv_iload_n hx hb dX8_sinks_43 rfl (lv_at hl 0 rfl) ?_
          refine z_iconst hx hb dX8_sinks_44 ?_
          obtain ⟨M11, c10, hF⟩ := zc_e hF
          refine z_sameVv (As := [.int (nZ v6), .int (nZ (1:Int))]) hX hH 0 8 (ctX8_goes l D cs α N M9 v6 (1:Int) M11 c10) (cwV 2 hts gX8_sinks_X8_goes rfl rfl rfl (by decide +kernel) ⟨Nat.le_of_ble_eq_true rfl, Nat.le_of_ble_eq_true rfl⟩) rfl rfl rfl hl.1 (Nat.le_of_ble_eq_true rfl) rfl dX8_sinks_45 ⟨Nat.zero_le _, Nat.zero_le _⟩ (fun H locs hH => ?_)
          refine lv_goto (tgt := 0) hx hb dX8_sinks_48 (by decide) ?_
          exact hk0 M11 hF _ _ _ hH (lv_sub hl [1] rfl)
        · have hF := zi_f hF hc
          exact z_vret hX hr hlocks hH hF dX8_sinks_30
  have hl : lv_has ls 2 [(0, .ref (α 0))] := hl
  unfold fX8_sinks at hF
  exact L0 N M hF _ _ _ hH (lv_sub hl [0] rfl)
theorem flX8_lets_11 : zF RX8 wsX8_lets 11 8 0 := ⟨_, TX8, _, rfl, by decide +kernel, by decide +kernel, by decide, rfl⟩
set_option maxHeartbeats 4000000 in
set_option maxRecDepth 100000 in
theorem ctX8_lets (l : Launch) (D : va_G) (cs : Nat → ClassId) (α : Nat → Nat) (N : Nat) (M : zM) (M' : zM) (hF : fX8_lets N M = some M') : Met l yX8_lets wsX8_lets ({ frames := 2, cells := 0, slots := 0, locals := 45 }) (zPre D cs LM α M [.ref (α 0)]) (zQv D cs LM α M') 0 0 (zA LM.length α) := by
  refine z_met (cc := cX8_lets) (maxL := 3) (ret := none) (by decide +kernel) rfl RX8 rfl (Nat.le_of_ble_eq_true rfl) ?_
  intro p e s m below meth c ls hX hr hlocks hH hl
  have hx := hX.1.1
  have hb := hX.1.2.1
  have hts := hX.1.2.2.2.2
  have J109 : ∀ (k0 : zM → Option zM) (hk0 : ∀ (M0 : zM), k0 M0 = some M' → zGo p l e (headSpec wsX8_lets ({ frames := 2, cells := 0, slots := 0, locals := 45 })).room s m ([.ref (α 0)] : List Value).toArray below meth c (MQ below (zQv D cs LM α M') ([.ref (α 0)] : List Value).toArray s 0 0 (zA LM.length α)) D cs LM α (zA LM.length α) 3 0 [(0, .ref (α 0))] [] M0) (M0 : zM), sX8_lets_109 N k0 M0 = some M' → zGo p l e (headSpec wsX8_lets ({ frames := 2, cells := 0, slots := 0, locals := 45 })).room s m ([.ref (α 0)] : List Value).toArray below meth c (MQ below (zQv D cs LM α M') ([.ref (α 0)] : List Value).toArray s 0 0 (zA LM.length α)) D cs LM α (zA LM.length α) 3 109 [(0, .ref (α 0))] [] M0 := by
    intro k0 hk0 M0 hF H locs ls hH hl
    unfold sX8_lets_109 at hF
    refine lv_goto (tgt := 0) hx hb dX8_lets_109 (by decide) ?_
    exact hk0 M0 hF _ _ _ hH (lv_sub hl [0] rfl)
  have J82 : ∀ (k0 : zM → Option zM) (hk0 : ∀ (M0 : zM), k0 M0 = some M' → zGo p l e (headSpec wsX8_lets ({ frames := 2, cells := 0, slots := 0, locals := 45 })).room s m ([.ref (α 0)] : List Value).toArray below meth c (MQ below (zQv D cs LM α M') ([.ref (α 0)] : List Value).toArray s 0 0 (zA LM.length α)) D cs LM α (zA LM.length α) 3 0 [(0, .ref (α 0))] [] M0) (x1 : Int) (x2 : Int) (M0 : zM), sX8_lets_82 N k0 x1 x2 M0 = some M' → zGo p l e (headSpec wsX8_lets ({ frames := 2, cells := 0, slots := 0, locals := 45 })).room s m ([.ref (α 0)] : List Value).toArray below meth c (MQ below (zQv D cs LM α M') ([.ref (α 0)] : List Value).toArray s 0 0 (zA LM.length α)) D cs LM α (zA LM.length α) 3 82 [(0, .ref (α 0)), (1, .int (nZ x1)), (2, .int (nZ x2))] [] M0 := by
    intro k0 hk0 x1 x2 M0 hF H locs ls hH hl
    unfold sX8_lets_82 at hF
    refine lv_iload_n hx hb dX8_lets_82 rfl (lv_at hl 1 rfl) ?_
    obtain ⟨h12, hF⟩ := zg_e hF
    refine z_if_lt (tgt := 95) hx hb h12 dX8_lets_83 (by decide) (fun hc => ?_) (fun hc => ?_)
    · have hF := zi_t hF hc
      refine lv_iload_n hx hb dX8_lets_95 rfl (lv_at hl 2 rfl) ?_
      obtain ⟨h13, hF⟩ := zg_e hF
      refine z_if_lt (tgt := 108) hx hb h13 dX8_lets_96 (by decide) (fun hc => ?_) (fun hc => ?_)
      · have hF := zi_t hF hc
        exact z_vret hX hr hlocks hH hF dX8_lets_108
      · have hF := zi_f hF hc
        refine lv_aload_n hx hb dX8_lets_99 rfl (lv_at hl 0 rfl) ?_
        refine lv_iload_n hx hb dX8_lets_100 rfl (lv_at hl 2 rfl) ?_
        refine z_iconst hx hb dX8_lets_101 ?_
        obtain ⟨M15, c14, hF⟩ := zc_e hF
        refine z_sameVv (As := [.int (nZ x2), .int (nZ (4:Int))]) hX hH 0 8 (ctX8_went l D cs α N M0 x2 (4:Int) M15 c14) (cwV 2 hts gX8_lets_X8_went rfl rfl rfl (by decide +kernel) ⟨Nat.le_of_ble_eq_true rfl, Nat.le_of_ble_eq_true rfl⟩) rfl rfl rfl hl.1 (Nat.le_of_ble_eq_true rfl) rfl dX8_lets_102 ⟨Nat.zero_le _, Nat.zero_le _⟩ (fun H locs hH => ?_)
        refine lv_goto (tgt := 109) hx hb dX8_lets_105 (by decide) ?_
        exact J109 k0 hk0 M15 hF _ _ _ hH (lv_sub hl [0] rfl)
    · have hF := zi_f hF hc
      refine lv_aload_n hx hb dX8_lets_86 rfl (lv_at hl 0 rfl) ?_
      refine lv_iload_n hx hb dX8_lets_87 rfl (lv_at hl 1 rfl) ?_
      refine z_iconst hx hb dX8_lets_88 ?_
      obtain ⟨M17, c16, hF⟩ := zc_e hF
      refine z_sameVv (As := [.int (nZ x1), .int (nZ (3:Int))]) hX hH 0 8 (ctX8_went l D cs α N M0 x1 (3:Int) M17 c16) (cwV 2 hts gX8_lets_X8_went rfl rfl rfl (by decide +kernel) ⟨Nat.le_of_ble_eq_true rfl, Nat.le_of_ble_eq_true rfl⟩) rfl rfl rfl hl.1 (Nat.le_of_ble_eq_true rfl) rfl dX8_lets_89 ⟨Nat.zero_le _, Nat.zero_le _⟩ (fun H locs hH => ?_)
      refine lv_goto (tgt := 109) hx hb dX8_lets_92 (by decide) ?_
      exact J109 k0 hk0 M17 hF _ _ _ hH (lv_sub hl [0] rfl)
  have L0 : ∀ (n : Nat) (M0 : zM), fX8_lets_0 N n M0 = some M' → zGo p l e (headSpec wsX8_lets ({ frames := 2, cells := 0, slots := 0, locals := 45 })).room s m ([.ref (α 0)] : List Value).toArray below meth c (MQ below (zQv D cs LM α M') ([.ref (α 0)] : List Value).toArray s 0 0 (zA LM.length α)) D cs LM α (zA LM.length α) 3 0 [(0, .ref (α 0))] [] M0 := by
    intro  n
    induction n with
    | zero =>
      intro M0 hF
      have hF : (none : Option zM) = some M' := hF
      cases hF
    | succ n hk0 =>
      intro M0 hF H locs ls hH hl
      have hF : sX8_lets_0 N (fun M0 => fX8_lets_0 N n M0) M0 = some M' := hF
      unfold sX8_lets_0 at hF
      refine lv_aload_n hx hb dX8_lets_0 rfl (lv_at hl 0 rfl) ?_
      refine z_getr hX hH 0 0 1 rfl rfl flX8_lets_11 dX8_lets_1 ?_
      refine z_sipush (v := 3205) hx hb dX8_lets_4 (by decide +kernel) ?_
      refine z_iald hX hH 1 3253 rfl (by decide) (by decide) dX8_lets_7 ?_
      refine lv_aload_n hx hb dX8_lets_8 rfl (lv_at hl 0 rfl) ?_
      refine z_getr hX hH 0 0 1 rfl rfl flX8_lets_11 dX8_lets_9 ?_
      refine z_sipush (v := 3206) hx hb dX8_lets_12 (by decide +kernel) ?_
      refine z_iald hX hH 1 3253 rfl (by decide) (by decide) dX8_lets_15 ?_
      refine z_iadd hx hb dX8_lets_16 ?_
      refine lv_aload_n hx hb dX8_lets_17 rfl (lv_at hl 0 rfl) ?_
      refine z_getr hX hH 0 0 1 rfl rfl flX8_lets_11 dX8_lets_18 ?_
      refine z_sipush (v := 3200) hx hb dX8_lets_21 (by decide +kernel) ?_
      refine z_iald hX hH 1 3253 rfl (by decide) (by decide) dX8_lets_24 ?_
      obtain ⟨h1, hF⟩ := zg_e hF
      obtain ⟨h2, hF⟩ := zg_e hF
      refine z_icmp_le (tgt := 112) hx hb h1 h2 dX8_lets_25 (by decide) (fun hc => ?_) (fun hc => ?_)
      · have hF := zi_t hF hc
        exact z_vret hX hr hlocks hH hF dX8_lets_112
      · have hF := zi_f hF hc
        refine lv_aload_n hx hb dX8_lets_28 rfl (lv_at hl 0 rfl) ?_
        refine z_iconst hx hb dX8_lets_29 ?_
        refine z_iconst hx hb dX8_lets_30 ?_
        obtain ⟨r5, M4, c3, hF⟩ := zc2_e hF
        refine z_sameVi (As := [.int (nZ (1:Int)), .int (nZ (1:Int))]) hX hH 0 8 (ctX8_oldest l D cs α N M0 (1:Int) (1:Int) r5 M4 c3) (cwV 2 hts gX8_lets_X8_oldest rfl rfl rfl (by decide +kernel) ⟨Nat.le_of_ble_eq_true rfl, Nat.le_of_ble_eq_true rfl⟩) rfl rfl rfl hl.1 (Nat.le_of_ble_eq_true rfl) rfl dX8_lets_31 ⟨Nat.zero_le _, Nat.zero_le _⟩ (fun H locs hH => ?_)
        obtain ⟨v6, ev6, hF⟩ := zl_e hF
        refine z_istore_n ev6 (lv' := [(1, .int (nZ v6)), (0, .ref (α 0))]) hx hb dX8_lets_34 rfl hl (by decide) rfl (fun ls hl => ?_)
        refine lv_aload_n hx hb dX8_lets_35 rfl (lv_at hl 1 rfl) ?_
        refine z_iconst hx hb dX8_lets_36 ?_
        refine z_iconst hx hb dX8_lets_37 ?_
        obtain ⟨r9, M8, c7, hF⟩ := zc2_e hF
        refine z_sameVi (As := [.int (nZ (2:Int)), .int (nZ (1:Int))]) hX hH 0 8 (ctX8_oldest l D cs α N M4 (2:Int) (1:Int) r9 M8 c7) (cwV 2 hts gX8_lets_X8_oldest rfl rfl rfl (by decide +kernel) ⟨Nat.le_of_ble_eq_true rfl, Nat.le_of_ble_eq_true rfl⟩) rfl rfl rfl hl.1 (Nat.le_of_ble_eq_true rfl) rfl dX8_lets_38 ⟨Nat.zero_le _, Nat.zero_le _⟩ (fun H locs hH => ?_)
        obtain ⟨v10, ev10, hF⟩ := zl_e hF
        refine z_istore_n ev10 (lv' := [(2, .int (nZ v10)), (1, .int (nZ v6)), (0, .ref (α 0))]) hx hb dX8_lets_41 rfl hl (by decide) rfl (fun ls hl => ?_)
        refine lv_iload_n hx hb dX8_lets_42 rfl (lv_at hl 1 rfl) ?_
        obtain ⟨h11, hF⟩ := zg_e hF
        refine z_if_lt (tgt := 82) hx hb h11 dX8_lets_43 (by decide) (fun hc => ?_) (fun hc => ?_)
        · have hF := zi_t hF hc
          exact J82 (fun M0 => fX8_lets_0 N n M0) hk0 v6 v10 M8 hF _ _ _ hH (lv_sub hl [2, 1, 0] rfl)
        · have hF := zi_f hF hc
          refine lv_aload_n hx hb dX8_lets_46 rfl (lv_at hl 2 rfl) ?_
          refine z_getr hX hH 0 0 1 rfl rfl flX8_lets_11 dX8_lets_47 ?_
          refine z_sipush (v := 2000) hx hb dX8_lets_50 (by decide +kernel) ?_
          refine lv_iload_n hx hb dX8_lets_53 rfl (lv_at hl 1 rfl) ?_
          refine z_iadd hx hb dX8_lets_54 ?_
          obtain ⟨h18, hF⟩ := zg_e hF
          refine z_iald hX hH 1 3253 rfl h18 (by decide) dX8_lets_55 ?_
          obtain ⟨h19, hF⟩ := zg_e hF
          refine z_if_le (tgt := 82) hx hb h19 dX8_lets_56 (by decide) (fun hc => ?_) (fun hc => ?_)
          · have hF := zi_t hF hc
            exact J82 (fun M0 => fX8_lets_0 N n M0) hk0 v6 v10 M8 hF _ _ _ hH (lv_sub hl [2, 1, 0] rfl)
          · have hF := zi_f hF hc
            refine lv_aload_n hx hb dX8_lets_59 rfl (lv_at hl 2 rfl) ?_
            refine z_getr hX hH 0 0 1 rfl rfl flX8_lets_11 dX8_lets_60 ?_
            refine z_sipush (v := 2000) hx hb dX8_lets_63 (by decide +kernel) ?_
            refine lv_iload_n hx hb dX8_lets_66 rfl (lv_at hl 1 rfl) ?_
            refine z_iadd hx hb dX8_lets_67 ?_
            refine lv_dup2_11 hx hb dX8_lets_68 rfl rfl ?_
            refine z_iald hX hH 1 3253 rfl h18 (by decide) dX8_lets_69 ?_
            refine z_iconst hx hb dX8_lets_70 ?_
            refine z_isub hx hb dX8_lets_71 ?_
            obtain ⟨M20, eM20, hF⟩ := zl_e hF
            refine z_iast hX hH 1 3253 eM20 rfl h18 (by decide) dX8_lets_72 (fun H locs hH => ?_)
            refine lv_aload_n hx hb dX8_lets_73 rfl (lv_at hl 2 rfl) ?_
            refine lv_iload_n hx hb dX8_lets_74 rfl (lv_at hl 1 rfl) ?_
            refine z_iconst hx hb dX8_lets_75 ?_
            obtain ⟨M22, c21, hF⟩ := zc_e hF
            refine z_sameVv (As := [.int (nZ v6), .int (nZ (1:Int))]) hX hH 0 8 (ctX8_goes l D cs α N M20 v6 (1:Int) M22 c21) (cwV 2 hts gX8_lets_X8_goes rfl rfl rfl (by decide +kernel) ⟨Nat.le_of_ble_eq_true rfl, Nat.le_of_ble_eq_true rfl⟩) rfl rfl rfl hl.1 (Nat.le_of_ble_eq_true rfl) rfl dX8_lets_76 ⟨Nat.zero_le _, Nat.zero_le _⟩ (fun H locs hH => ?_)
            refine lv_goto (tgt := 109) hx hb dX8_lets_79 (by decide) ?_
            exact J109 (fun M0 => fX8_lets_0 N n M0) hk0 M22 hF _ _ _ hH (lv_sub hl [2] rfl)
  have hl : lv_has ls 3 [(0, .ref (α 0))] := hl
  unfold fX8_lets at hF
  exact L0 N M hF _ _ _ hH (lv_sub hl [0] rfl)
theorem flX8_trim_11 : zF RX8 wsX8_trim 11 8 0 := ⟨_, TX8, _, rfl, by decide +kernel, by decide +kernel, by decide, rfl⟩
set_option maxHeartbeats 4000000 in
set_option maxRecDepth 100000 in
theorem ctX8_trim (l : Launch) (D : va_G) (cs : Nat → ClassId) (α : Nat → Nat) (N : Nat) (M : zM) (M' : zM) (hF : fX8_trim N M = some M') : Met l yX8_trim wsX8_trim ({ frames := 3, cells := 0, slots := 0, locals := 67 }) (zPre D cs LM α M [.ref (α 0)]) (zQv D cs LM α M') 0 0 (zA LM.length α) := by
  refine z_met (cc := cX8_trim) (maxL := 2) (ret := none) (by decide +kernel) rfl RX8 rfl (Nat.le_of_ble_eq_true rfl) ?_
  intro p e s m below meth c ls hX hr hlocks hH hl
  have hx := hX.1.1
  have hb := hX.1.2.1
  have hts := hX.1.2.2.2.2
  have L15 : ∀ (k10 : Int → zM → Option zM) (hk10 : ∀ (x1 : Int) (M0 : zM), k10 x1 M0 = some M' → zGo p l e (headSpec wsX8_trim ({ frames := 3, cells := 0, slots := 0, locals := 67 })).room s m ([.ref (α 0)] : List Value).toArray below meth c (MQ below (zQv D cs LM α M') ([.ref (α 0)] : List Value).toArray s 0 0 (zA LM.length α)) D cs LM α (zA LM.length α) 2 10 [(0, .ref (α 0)), (1, .int (nZ x1))] [] M0) (n : Nat) (x1 : Int) (M0 : zM), fX8_trim_15 N k10 n x1 M0 = some M' → zGo p l e (headSpec wsX8_trim ({ frames := 3, cells := 0, slots := 0, locals := 67 })).room s m ([.ref (α 0)] : List Value).toArray below meth c (MQ below (zQv D cs LM α M') ([.ref (α 0)] : List Value).toArray s 0 0 (zA LM.length α)) D cs LM α (zA LM.length α) 2 15 [(0, .ref (α 0)), (1, .int (nZ x1))] [] M0 := by
    intro k10 hk10 n
    induction n with
    | zero =>
      intro x1 M0 hF
      have hF : (none : Option zM) = some M' := hF
      cases hF
    | succ n hk15 =>
      intro x1 M0 hF H locs ls hH hl
      have hF : sX8_trim_15 N k10 (fun x1 M0 => fX8_trim_15 N k10 n x1 M0) x1 M0 = some M' := hF
      unfold sX8_trim_15 at hF
      refine lv_aload_n hx hb dX8_trim_15 rfl (lv_at hl 0 rfl) ?_
      refine z_getr hX hH 0 0 1 rfl rfl flX8_trim_11 dX8_trim_16 ?_
      refine z_sipush (v := 3204) hx hb dX8_trim_19 (by decide +kernel) ?_
      refine lv_iload_n hx hb dX8_trim_22 rfl (lv_at hl 1 rfl) ?_
      refine z_iadd hx hb dX8_trim_23 ?_
      obtain ⟨h7, hF⟩ := zg_e hF
      refine z_iald hX hH 1 3253 rfl h7 (by decide) dX8_trim_24 ?_
      refine lv_aload_n hx hb dX8_trim_25 rfl (lv_at hl 0 rfl) ?_
      refine z_getr hX hH 0 0 1 rfl rfl flX8_trim_11 dX8_trim_26 ?_
      refine z_sipush (v := 3200) hx hb dX8_trim_29 (by decide +kernel) ?_
      refine z_iald hX hH 1 3253 rfl (by decide) (by decide) dX8_trim_32 ?_
      obtain ⟨h8, hF⟩ := zg_e hF
      obtain ⟨h9, hF⟩ := zg_e hF
      refine z_icmp_le (tgt := 50) hx hb h8 h9 dX8_trim_33 (by decide) (fun hc => ?_) (fun hc => ?_)
      · have hF := zi_t hF hc
        obtain ⟨v10, ev10, hF⟩ := zl_e hF
        refine z_iinc ev10 (lv' := [(1, .int (nZ v10)), (0, .ref (α 0))]) hx hb dX8_trim_50 hl (k := 1) rfl (by decide) rfl (fun ls hl => ?_)
        refine lv_goto (tgt := 10) hx hb dX8_trim_53 (by decide) ?_
        exact hk10 v10 M0 hF _ _ _ hH (lv_sub hl [1, 0] rfl)
      · have hF := zi_f hF hc
        refine lv_aload_n hx hb dX8_trim_36 rfl (lv_at hl 0 rfl) ?_
        refine lv_aload_n hx hb dX8_trim_37 rfl (lv_at hl 0 rfl) ?_
        refine lv_iload_n hx hb dX8_trim_38 rfl (lv_at hl 1 rfl) ?_
        refine z_iconst hx hb dX8_trim_39 ?_
        obtain ⟨r13, M12, c11, hF⟩ := zc2_e hF
        refine z_sameVi (As := [.int (nZ x1), .int (nZ (0:Int))]) hX hH 0 8 (ctX8_oldest l D cs α N M0 x1 (0:Int) r13 M12 c11) (cwV 2 hts gX8_trim_X8_oldest rfl rfl rfl (by decide +kernel) ⟨Nat.le_of_ble_eq_true rfl, Nat.le_of_ble_eq_true rfl⟩) rfl rfl rfl hl.1 (Nat.le_of_ble_eq_true rfl) rfl dX8_trim_40 ⟨Nat.zero_le _, Nat.zero_le _⟩ (fun H locs hH => ?_)
        refine z_iconst hx hb dX8_trim_43 ?_
        obtain ⟨M15, c14, hF⟩ := zc_e hF
        refine z_sameVv (As := [.int (nZ r13), .int (nZ (0:Int))]) hX hH 0 8 (ctX8_goes l D cs α N M12 r13 (0:Int) M15 c14) (cwV 2 hts gX8_trim_X8_goes rfl rfl rfl (by decide +kernel) ⟨Nat.le_of_ble_eq_true rfl, Nat.le_of_ble_eq_true rfl⟩) rfl rfl rfl hl.1 (Nat.le_of_ble_eq_true rfl) rfl dX8_trim_44 ⟨Nat.zero_le _, Nat.zero_le _⟩ (fun H locs hH => ?_)
        refine lv_goto (tgt := 15) hx hb dX8_trim_47 (by decide) ?_
        exact hk15 x1 M15 hF _ _ _ hH (lv_sub hl [0, 1] rfl)
  have L10 : ∀ (n : Nat) (x1 : Int) (M0 : zM), fX8_trim_10 N n x1 M0 = some M' → zGo p l e (headSpec wsX8_trim ({ frames := 3, cells := 0, slots := 0, locals := 67 })).room s m ([.ref (α 0)] : List Value).toArray below meth c (MQ below (zQv D cs LM α M') ([.ref (α 0)] : List Value).toArray s 0 0 (zA LM.length α)) D cs LM α (zA LM.length α) 2 10 [(0, .ref (α 0)), (1, .int (nZ x1))] [] M0 := by
    intro  n
    induction n with
    | zero =>
      intro x1 M0 hF
      have hF : (none : Option zM) = some M' := hF
      cases hF
    | succ n hk10 =>
      intro x1 M0 hF H locs ls hH hl
      have hF : sX8_trim_10 N (fun x1 M0 => fX8_trim_10 N n x1 M0) x1 M0 = some M' := hF
      unfold sX8_trim_10 at hF
      refine lv_iload_n hx hb dX8_trim_10 rfl (lv_at hl 1 rfl) ?_
      refine z_iconst hx hb dX8_trim_11 ?_
      obtain ⟨h6, hF⟩ := zg_e hF
      refine z_icmp_gt (tgt := 56) hx hb h6 (by decide) dX8_trim_12 (by decide) (fun hc => ?_) (fun hc => ?_)
      · have hF := zi_t hF hc
        exact z_vret hX hr hlocks hH hF dX8_trim_56
      · have hF := zi_f hF hc
        exact L15 (fun x1 M0 => fX8_trim_10 N n x1 M0) hk10 N x1 M0 hF _ _ _ hH (lv_sub hl [0, 1] rfl)
  have hl : lv_has ls 2 [(0, .ref (α 0))] := hl
  unfold fX8_trim at hF
  refine lv_aload_n hx hb dX8_trim_0 rfl (lv_at hl 0 rfl) ?_
  obtain ⟨M2, c1, hF⟩ := zc_e hF
  refine z_sameVv (As := []) hX hH 0 8 (ctX8_sinks l D cs α N M  M2 c1) (cwV 0 hts gX8_trim_X8_sinks rfl rfl rfl (by decide +kernel) ⟨Nat.le_of_ble_eq_true rfl, Nat.le_of_ble_eq_true rfl⟩) rfl rfl rfl hl.1 (Nat.le_of_ble_eq_true rfl) rfl dX8_trim_1 ⟨Nat.zero_le _, Nat.zero_le _⟩ (fun H locs hH => ?_)
  refine lv_aload_n hx hb dX8_trim_4 rfl (lv_at hl 0 rfl) ?_
  obtain ⟨M4, c3, hF⟩ := zc_e hF
  refine z_sameVv (As := []) hX hH 0 8 (ctX8_lets l D cs α N M2  M4 c3) (cwV 0 hts gX8_trim_X8_lets rfl rfl rfl (by decide +kernel) ⟨Nat.le_of_ble_eq_true rfl, Nat.le_of_ble_eq_true rfl⟩) rfl rfl rfl hl.1 (Nat.le_of_ble_eq_true rfl) rfl dX8_trim_5 ⟨Nat.zero_le _, Nat.zero_le _⟩ (fun H locs hH => ?_)
  refine z_iconst hx hb dX8_trim_8 ?_
  obtain ⟨v5, ev5, hF⟩ := zl_e hF
  refine z_istore_n ev5 (lv' := [(1, .int (nZ v5)), (0, .ref (α 0))]) hx hb dX8_trim_9 rfl hl (by decide) rfl (fun ls hl => ?_)
  exact L10 N v5 M4 hF _ _ _ hH (lv_sub hl [1, 0] rfl)
theorem flX8_hit_11 : zF RX8 wsX8_hit 11 8 0 := ⟨_, TX8, _, rfl, by decide +kernel, by decide +kernel, by decide, rfl⟩
set_option maxHeartbeats 4000000 in
set_option maxRecDepth 100000 in
theorem ctX8_hit (l : Launch) (D : va_G) (cs : Nat → ClassId) (α : Nat → Nat) (N : Nat) (M : zM) (a1 : Int) (M' : zM) (hF : fX8_hit N a1 M = some M') : Met l yX8_hit wsX8_hit ({ frames := 1, cells := 0, slots := 0, locals := 22 }) (zPre D cs LM α M [.ref (α 0), .int (nZ a1)]) (zQv D cs LM α M') 0 0 (zA LM.length α) := by
  refine z_met (cc := cX8_hit) (maxL := 2) (ret := none) (by decide +kernel) rfl RX8 rfl (Nat.le_of_ble_eq_true rfl) ?_
  intro p e s m below meth c ls hX hr hlocks hH hl
  have hx := hX.1.1
  have hb := hX.1.2.1
  have hts := hX.1.2.2.2.2
  have J89 : ∀ (y0 : Int) (y1 : Int) (M0 : zM), sX8_hit_89 N y0 y1 M0 = some M' → zGo p l e (headSpec wsX8_hit ({ frames := 1, cells := 0, slots := 0, locals := 22 })).room s m ([.ref (α 0), .int (nZ a1)] : List Value).toArray below meth c (MQ below (zQv D cs LM α M') ([.ref (α 0), .int (nZ a1)] : List Value).toArray s 0 0 (zA LM.length α)) D cs LM α (zA LM.length α) 2 89 [] [.int (nZ y0), .int (nZ y1), .ref (α 0)] M0 := by
    intro y0 y1 M0 hF H locs ls hH hl
    unfold sX8_hit_89 at hF
    obtain ⟨M9, c8, hF⟩ := zc_e hF
    refine z_sameVv (As := [.int (nZ y1), .int (nZ y0)]) hX hH 0 8 (ctX8_goes l D cs α N M0 y1 y0 M9 c8) (cwV 2 hts gX8_hit_X8_goes rfl rfl rfl (by decide +kernel) ⟨Nat.le_of_ble_eq_true rfl, Nat.le_of_ble_eq_true rfl⟩) rfl rfl rfl hl.1 (Nat.le_of_ble_eq_true rfl) rfl dX8_hit_89 ⟨Nat.zero_le _, Nat.zero_le _⟩ (fun H locs hH => ?_)
    exact z_vret hX hr hlocks hH hF dX8_hit_92
  have J81 : ∀ (x1 : Int) (y0 : Int) (M0 : zM), sX8_hit_81 N x1 y0 M0 = some M' → zGo p l e (headSpec wsX8_hit ({ frames := 1, cells := 0, slots := 0, locals := 22 })).room s m ([.ref (α 0), .int (nZ a1)] : List Value).toArray below meth c (MQ below (zQv D cs LM α M') ([.ref (α 0), .int (nZ a1)] : List Value).toArray s 0 0 (zA LM.length α)) D cs LM α (zA LM.length α) 2 81 [(0, .ref (α 0)), (1, .int (nZ x1))] [.int (nZ y0), .ref (α 0)] M0 := by
    intro x1 y0 M0 hF H locs ls hH hl
    unfold sX8_hit_81 at hF
    refine lv_aload_n hx hb dX8_hit_81 rfl (lv_at hl 0 rfl) ?_
    refine z_getr hX hH 0 0 1 rfl rfl flX8_hit_11 dX8_hit_82 ?_
    refine z_iconst hx hb dX8_hit_85 ?_
    refine lv_iload_n hx hb dX8_hit_86 rfl (lv_at hl 1 rfl) ?_
    refine z_iadd hx hb dX8_hit_87 ?_
    obtain ⟨h7, hF⟩ := zg_e hF
    refine z_iald hX hH 1 3253 rfl h7 (by decide) dX8_hit_88 ?_
    exact J89 (M0 1 ((0:Int) + x1).toNat) y0 M0 hF _ _ _ hH (lv_sub hl [] rfl)
  have J41 : ∀ (x1 : Int) (y0 : Int) (y1 : Int) (M0 : zM), sX8_hit_41 N x1 y0 y1 M0 = some M' → zGo p l e (headSpec wsX8_hit ({ frames := 1, cells := 0, slots := 0, locals := 22 })).room s m ([.ref (α 0), .int (nZ a1)] : List Value).toArray below meth c (MQ below (zQv D cs LM α M') ([.ref (α 0), .int (nZ a1)] : List Value).toArray s 0 0 (zA LM.length α)) D cs LM α (zA LM.length α) 2 41 [(0, .ref (α 0)), (1, .int (nZ x1))] [.int (nZ y0), .int (nZ y1), .ref (α 1)] M0 := by
    intro x1 y0 y1 M0 hF H locs ls hH hl
    unfold sX8_hit_41 at hF
    obtain ⟨h3, hF⟩ := zg_e hF
    obtain ⟨M4, eM4, hF⟩ := zl_e hF
    refine z_iast hX hH 1 3253 eM4 rfl h3 (by decide) dX8_hit_41 (fun H locs hH => ?_)
    refine lv_aload_n hx hb dX8_hit_42 rfl (lv_at hl 0 rfl) ?_
    refine lv_iload_n hx hb dX8_hit_43 rfl (lv_at hl 1 rfl) ?_
    refine lv_aload_n hx hb dX8_hit_44 rfl (lv_at hl 0 rfl) ?_
    refine z_getr hX hH 0 0 1 rfl rfl flX8_hit_11 dX8_hit_45 ?_
    refine z_iconst hx hb dX8_hit_48 ?_
    refine lv_iload_n hx hb dX8_hit_49 rfl (lv_at hl 1 rfl) ?_
    refine z_iadd hx hb dX8_hit_50 ?_
    obtain ⟨h5, hF⟩ := zg_e hF
    refine z_iald hX hH 1 3253 rfl h5 (by decide) dX8_hit_51 ?_
    refine z_iconst hx hb dX8_hit_52 ?_
    obtain ⟨h6, hF⟩ := zg_e hF
    refine z_icmp_ne (tgt := 81) hx hb h6 (by decide) dX8_hit_53 (by decide) (fun hc => ?_) (fun hc => ?_)
    · have hF := zi_f hF hc
      exact J81 x1 x1 M4 hF _ _ _ hH (lv_sub hl [0, 1] rfl)
    · have hF := zi_t hF hc
      refine lv_aload_n hx hb dX8_hit_56 rfl (lv_at hl 0 rfl) ?_
      refine z_getr hX hH 0 0 1 rfl rfl flX8_hit_11 dX8_hit_57 ?_
      refine z_sipush (v := 1600) hx hb dX8_hit_60 (by decide +kernel) ?_
      refine lv_iload_n hx hb dX8_hit_63 rfl (lv_at hl 1 rfl) ?_
      refine z_iadd hx hb dX8_hit_64 ?_
      obtain ⟨h10, hF⟩ := zg_e hF
      refine z_iald hX hH 1 3253 rfl h10 (by decide) dX8_hit_65 ?_
      refine lv_aload_n hx hb dX8_hit_66 rfl (lv_at hl 0 rfl) ?_
      refine z_getr hX hH 0 0 1 rfl rfl flX8_hit_11 dX8_hit_67 ?_
      refine z_sipush (v := 3202) hx hb dX8_hit_70 (by decide +kernel) ?_
      refine z_iald hX hH 1 3253 rfl (by decide) (by decide) dX8_hit_73 ?_
      obtain ⟨h11, hF⟩ := zg_e hF
      obtain ⟨h12, hF⟩ := zg_e hF
      refine z_icmp_lt (tgt := 81) hx hb h11 h12 dX8_hit_74 (by decide) (fun hc => ?_) (fun hc => ?_)
      · have hF := zi_t hF hc
        exact J81 x1 x1 M4 hF _ _ _ hH (lv_sub hl [0, 1] rfl)
      · have hF := zi_f hF hc
        refine z_iconst hx hb dX8_hit_77 ?_
        refine lv_goto (tgt := 89) hx hb dX8_hit_78 (by decide) ?_
        exact J89 (2:Int) x1 M4 hF _ _ _ hH (lv_sub hl [] rfl)
  have hl : lv_has ls 2 [(0, .ref (α 0)), (1, .int (nZ a1))] := hl
  unfold fX8_hit at hF
  refine lv_aload_n hx hb dX8_hit_0 rfl (lv_at hl 0 rfl) ?_
  refine z_getr hX hH 0 0 1 rfl rfl flX8_hit_11 dX8_hit_1 ?_
  refine z_sipush (v := 1600) hx hb dX8_hit_4 (by decide +kernel) ?_
  refine lv_iload_n hx hb dX8_hit_7 rfl (lv_at hl 1 rfl) ?_
  refine z_iadd hx hb dX8_hit_8 ?_
  refine lv_aload_n hx hb dX8_hit_9 rfl (lv_at hl 0 rfl) ?_
  refine z_getr hX hH 0 0 1 rfl rfl flX8_hit_11 dX8_hit_10 ?_
  refine z_sipush (v := 1600) hx hb dX8_hit_13 (by decide +kernel) ?_
  refine lv_iload_n hx hb dX8_hit_16 rfl (lv_at hl 1 rfl) ?_
  refine z_iadd hx hb dX8_hit_17 ?_
  obtain ⟨h1, hF⟩ := zg_e hF
  refine z_iald hX hH 1 3253 rfl h1 (by decide) dX8_hit_18 ?_
  refine z_bipush (v := 99) hx hb dX8_hit_19 (by decide +kernel) ?_
  obtain ⟨h2, hF⟩ := zg_e hF
  refine z_icmp_ge (tgt := 39) hx hb h2 (by decide) dX8_hit_21 (by decide) (fun hc => ?_) (fun hc => ?_)
  · have hF := zi_t hF hc
    refine z_bipush (v := 99) hx hb dX8_hit_39 (by decide +kernel) ?_
    exact J41 a1 (99:Int) ((1600:Int) + a1) M hF _ _ _ hH (lv_sub hl [0, 1] rfl)
  · have hF := zi_f hF hc
    refine lv_aload_n hx hb dX8_hit_24 rfl (lv_at hl 0 rfl) ?_
    refine z_getr hX hH 0 0 1 rfl rfl flX8_hit_11 dX8_hit_25 ?_
    refine z_sipush (v := 1600) hx hb dX8_hit_28 (by decide +kernel) ?_
    refine lv_iload_n hx hb dX8_hit_31 rfl (lv_at hl 1 rfl) ?_
    refine z_iadd hx hb dX8_hit_32 ?_
    refine z_iald hX hH 1 3253 rfl h1 (by decide) dX8_hit_33 ?_
    refine z_iconst hx hb dX8_hit_34 ?_
    refine z_iadd hx hb dX8_hit_35 ?_
    refine lv_goto (tgt := 41) hx hb dX8_hit_36 (by decide) ?_
    exact J41 a1 ((M 1 ((1600:Int) + a1).toNat) + (1:Int)) ((1600:Int) + a1) M hF _ _ _ hH (lv_sub hl [0, 1] rfl)
theorem flX8_putIn_11 : zF RX8 wsX8_putIn 11 8 0 := ⟨_, TX8, _, rfl, by decide +kernel, by decide +kernel, by decide, rfl⟩
set_option maxHeartbeats 4000000 in
set_option maxRecDepth 100000 in
theorem ctX8_putIn (l : Launch) (D : va_G) (cs : Nat → ClassId) (α : Nat → Nat) (N : Nat) (M : zM) (a1 : Int) (a2 : Int) (a3 : Int) (a4 : Int) (r : Int) (M' : zM) (hF : fX8_putIn N a1 a2 a3 a4 M = some (r, M')) : Met l yX8_putIn wsX8_putIn ({ frames := 4, cells := 0, slots := 0, locals := 88 }) (zPre D cs LM α M [.ref (α 0), .int (nZ a1), .int (nZ a2), .int (nZ a3), .int (nZ a4)]) (zQi D cs LM α r M') 0 0 (zA LM.length α) := by
  refine z_met (cc := cX8_putIn) (maxL := 6) (ret := (some .int)) (by decide +kernel) rfl RX8 rfl (Nat.le_of_ble_eq_true rfl) ?_
  intro p e s m below meth c ls hX hr hlocks hH hl
  have hx := hX.1.1
  have hb := hX.1.2.1
  have hts := hX.1.2.2.2.2
  have J51 : ∀ (x1 : Int) (M0 : zM), sX8_putIn_51 N x1 M0 = some (r, M') → zGo p l e (headSpec wsX8_putIn ({ frames := 4, cells := 0, slots := 0, locals := 88 })).room s m ([.ref (α 0), .int (nZ a1), .int (nZ a2), .int (nZ a3), .int (nZ a4)] : List Value).toArray below meth c (MQ below (zQi D cs LM α r M') ([.ref (α 0), .int (nZ a1), .int (nZ a2), .int (nZ a3), .int (nZ a4)] : List Value).toArray s 0 0 (zA LM.length α)) D cs LM α (zA LM.length α) 6 51 [(0, .ref (α 0)), (1, .int (nZ x1))] [] M0 := by
    intro x1 M0 hF H locs ls hH hl
    unfold sX8_putIn_51 at hF
    refine lv_aload_n hx hb dX8_putIn_51 rfl (lv_at hl 0 rfl) ?_
    refine lv_iload_n hx hb dX8_putIn_52 rfl (lv_at hl 1 rfl) ?_
    obtain ⟨M11, c10, hF⟩ := zc_e hF
    refine z_sameVv (As := [.int (nZ x1)]) hX hH 0 8 (ctX8_hit l D cs α N M0 x1 M11 c10) (cwV 1 hts gX8_putIn_X8_hit rfl rfl rfl (by decide +kernel) ⟨Nat.le_of_ble_eq_true rfl, Nat.le_of_ble_eq_true rfl⟩) rfl rfl rfl hl.1 (Nat.le_of_ble_eq_true rfl) rfl dX8_putIn_53 ⟨Nat.zero_le _, Nat.zero_le _⟩ (fun H locs hH => ?_)
    refine lv_aload_n hx hb dX8_putIn_56 rfl (lv_at hl 0 rfl) ?_
    obtain ⟨M13, c12, hF⟩ := zc_e hF
    refine z_sameVv (As := []) hX hH 0 8 (ctX8_trim l D cs α N M11  M13 c12) (cwV 0 hts gX8_putIn_X8_trim rfl rfl rfl (by decide +kernel) ⟨Nat.le_of_ble_eq_true rfl, Nat.le_of_ble_eq_true rfl⟩) rfl rfl rfl hl.1 (Nat.le_of_ble_eq_true rfl) rfl dX8_putIn_57 ⟨Nat.zero_le _, Nat.zero_le _⟩ (fun H locs hH => ?_)
    refine z_iconst hx hb dX8_putIn_60 ?_
    exact z_iret hX hr hlocks hH hF rfl dX8_putIn_61
  have J235 : ∀ (x5 : Int) (y0 : Int) (y1 : Int) (M0 : zM), sX8_putIn_235 N x5 y0 y1 M0 = some (r, M') → zGo p l e (headSpec wsX8_putIn ({ frames := 4, cells := 0, slots := 0, locals := 88 })).room s m ([.ref (α 0), .int (nZ a1), .int (nZ a2), .int (nZ a3), .int (nZ a4)] : List Value).toArray below meth c (MQ below (zQi D cs LM α r M') ([.ref (α 0), .int (nZ a1), .int (nZ a2), .int (nZ a3), .int (nZ a4)] : List Value).toArray s 0 0 (zA LM.length α)) D cs LM α (zA LM.length α) 6 235 [(0, .ref (α 0)), (5, .int (nZ x5))] [.int (nZ y0), .int (nZ y1), .ref (α 0)] M0 := by
    intro x5 y0 y1 M0 hF H locs ls hH hl
    unfold sX8_putIn_235 at hF
    obtain ⟨M24, c23, hF⟩ := zc_e hF
    refine z_sameVv (As := [.int (nZ y1), .int (nZ y0)]) hX hH 0 8 (ctX8_goes l D cs α N M0 y1 y0 M24 c23) (cwV 2 hts gX8_putIn_X8_goes rfl rfl rfl (by decide +kernel) ⟨Nat.le_of_ble_eq_true rfl, Nat.le_of_ble_eq_true rfl⟩) rfl rfl rfl hl.1 (Nat.le_of_ble_eq_true rfl) rfl dX8_putIn_235 ⟨Nat.zero_le _, Nat.zero_le _⟩ (fun H locs hH => ?_)
    refine lv_aload_n hx hb dX8_putIn_238 rfl (lv_at hl 0 rfl) ?_
    obtain ⟨M26, c25, hF⟩ := zc_e hF
    refine z_sameVv (As := []) hX hH 0 8 (ctX8_trim l D cs α N M24  M26 c25) (cwV 0 hts gX8_putIn_X8_trim rfl rfl rfl (by decide +kernel) ⟨Nat.le_of_ble_eq_true rfl, Nat.le_of_ble_eq_true rfl⟩) rfl rfl rfl hl.1 (Nat.le_of_ble_eq_true rfl) rfl dX8_putIn_239 ⟨Nat.zero_le _, Nat.zero_le _⟩ (fun H locs hH => ?_)
    refine lv_iload hx hb dX8_putIn_242 (lv_at hl 1 rfl) ?_
    obtain ⟨h27, hF⟩ := zg_e hF
    refine z_if_ne (tgt := 251) hx hb h27 dX8_putIn_244 (by decide) (fun hc => ?_) (fun hc => ?_)
    · have hF := zi_f hF hc
      refine z_iconst hx hb dX8_putIn_251 ?_
      exact z_iret hX hr hlocks hH hF rfl dX8_putIn_252
    · have hF := zi_t hF hc
      refine z_iconst hx hb dX8_putIn_247 ?_
      refine lv_goto (tgt := 252) hx hb dX8_putIn_248 (by decide) ?_
      exact z_iret hX hr hlocks hH hF rfl dX8_putIn_252
  have J223 : ∀ (x1 : Int) (x5 : Int) (M0 : zM), sX8_putIn_223 N x1 x5 M0 = some (r, M') → zGo p l e (headSpec wsX8_putIn ({ frames := 4, cells := 0, slots := 0, locals := 88 })).room s m ([.ref (α 0), .int (nZ a1), .int (nZ a2), .int (nZ a3), .int (nZ a4)] : List Value).toArray below meth c (MQ below (zQi D cs LM α r M') ([.ref (α 0), .int (nZ a1), .int (nZ a2), .int (nZ a3), .int (nZ a4)] : List Value).toArray s 0 0 (zA LM.length α)) D cs LM α (zA LM.length α) 6 223 [(0, .ref (α 0)), (1, .int (nZ x1)), (5, .int (nZ x5))] [] M0 := by
    intro x1 x5 M0 hF H locs ls hH hl
    unfold sX8_putIn_223 at hF
    refine lv_aload_n hx hb dX8_putIn_223 rfl (lv_at hl 0 rfl) ?_
    refine lv_iload_n hx hb dX8_putIn_224 rfl (lv_at hl 1 rfl) ?_
    refine lv_iload hx hb dX8_putIn_225 (lv_at hl 2 rfl) ?_
    obtain ⟨h22, hF⟩ := zg_e hF
    refine z_if_ne (tgt := 234) hx hb h22 dX8_putIn_227 (by decide) (fun hc => ?_) (fun hc => ?_)
    · have hF := zi_f hF hc
      refine z_iconst hx hb dX8_putIn_234 ?_
      exact J235 x5 (2:Int) x1 M0 hF _ _ _ hH (lv_sub hl [0, 2] rfl)
    · have hF := zi_t hF hc
      refine z_iconst hx hb dX8_putIn_230 ?_
      refine lv_goto (tgt := 235) hx hb dX8_putIn_231 (by decide) ?_
      exact J235 x5 (1:Int) x1 M0 hF _ _ _ hH (lv_sub hl [0, 2] rfl)
  have J222 : ∀ (x1 : Int) (x5 : Int) (y0 : Int) (y1 : Int) (M0 : zM), sX8_putIn_222 N x1 x5 y0 y1 M0 = some (r, M') → zGo p l e (headSpec wsX8_putIn ({ frames := 4, cells := 0, slots := 0, locals := 88 })).room s m ([.ref (α 0), .int (nZ a1), .int (nZ a2), .int (nZ a3), .int (nZ a4)] : List Value).toArray below meth c (MQ below (zQi D cs LM α r M') ([.ref (α 0), .int (nZ a1), .int (nZ a2), .int (nZ a3), .int (nZ a4)] : List Value).toArray s 0 0 (zA LM.length α)) D cs LM α (zA LM.length α) 6 222 [(0, .ref (α 0)), (1, .int (nZ x1)), (5, .int (nZ x5))] [.int (nZ y0), .int (nZ y1), .ref (α 1)] M0 := by
    intro x1 x5 y0 y1 M0 hF H locs ls hH hl
    unfold sX8_putIn_222 at hF
    obtain ⟨h30, hF⟩ := zg_e hF
    obtain ⟨M31, eM31, hF⟩ := zl_e hF
    refine z_iast hX hH 1 3253 eM31 rfl h30 (by decide) dX8_putIn_222 (fun H locs hH => ?_)
    exact J223 x1 x5 M31 hF _ _ _ hH (lv_sub hl [0, 1, 2] rfl)
  have J163 : ∀ (x1 : Int) (x5 : Int) (y0 : Int) (y1 : Int) (M0 : zM), sX8_putIn_163 N x1 x5 y0 y1 M0 = some (r, M') → zGo p l e (headSpec wsX8_putIn ({ frames := 4, cells := 0, slots := 0, locals := 88 })).room s m ([.ref (α 0), .int (nZ a1), .int (nZ a2), .int (nZ a3), .int (nZ a4)] : List Value).toArray below meth c (MQ below (zQi D cs LM α r M') ([.ref (α 0), .int (nZ a1), .int (nZ a2), .int (nZ a3), .int (nZ a4)] : List Value).toArray s 0 0 (zA LM.length α)) D cs LM α (zA LM.length α) 6 163 [(0, .ref (α 0)), (1, .int (nZ x1)), (5, .int (nZ x5))] [.int (nZ y0), .int (nZ y1), .ref (α 1)] M0 := by
    intro x1 x5 y0 y1 M0 hF H locs ls hH hl
    unfold sX8_putIn_163 at hF
    obtain ⟨h34, hF⟩ := zg_e hF
    obtain ⟨M35, eM35, hF⟩ := zl_e hF
    refine z_iast hX hH 1 3253 eM35 rfl h34 (by decide) dX8_putIn_163 (fun H locs hH => ?_)
    refine lv_goto (tgt := 223) hx hb dX8_putIn_164 (by decide) ?_
    exact J223 x1 x5 M35 hF _ _ _ hH (lv_sub hl [0, 1, 2] rfl)
  have J123 : ∀ (x1 : Int) (x3 : Int) (x5 : Int) (y0 : Int) (y1 : Int) (M0 : zM), sX8_putIn_123 N x1 x3 x5 y0 y1 M0 = some (r, M') → zGo p l e (headSpec wsX8_putIn ({ frames := 4, cells := 0, slots := 0, locals := 88 })).room s m ([.ref (α 0), .int (nZ a1), .int (nZ a2), .int (nZ a3), .int (nZ a4)] : List Value).toArray below meth c (MQ below (zQi D cs LM α r M') ([.ref (α 0), .int (nZ a1), .int (nZ a2), .int (nZ a3), .int (nZ a4)] : List Value).toArray s 0 0 (zA LM.length α)) D cs LM α (zA LM.length α) 6 123 [(0, .ref (α 0)), (1, .int (nZ x1)), (3, .int (nZ x3)), (5, .int (nZ x5))] [.int (nZ y0), .int (nZ y1), .ref (α 1)] M0 := by
    intro x1 x3 x5 y0 y1 M0 hF H locs ls hH hl
    unfold sX8_putIn_123 at hF
    obtain ⟨h19, hF⟩ := zg_e hF
    obtain ⟨M20, eM20, hF⟩ := zl_e hF
    refine z_iast hX hH 1 3253 eM20 rfl h19 (by decide) dX8_putIn_123 (fun H locs hH => ?_)
    refine lv_iload hx hb dX8_putIn_124 (lv_at hl 3 rfl) ?_
    refine z_iconst hx hb dX8_putIn_126 ?_
    obtain ⟨h21, hF⟩ := zg_e hF
    refine z_icmp_ne (tgt := 167) hx hb h21 (by decide) dX8_putIn_127 (by decide) (fun hc => ?_) (fun hc => ?_)
    · have hF := zi_f hF hc
      refine lv_iload hx hb dX8_putIn_167 (lv_at hl 3 rfl) ?_
      refine z_iconst hx hb dX8_putIn_169 ?_
      refine z_icmp_ne (tgt := 223) hx hb h21 (by decide) dX8_putIn_170 (by decide) (fun hc => ?_) (fun hc => ?_)
      · have hF := zi_f hF hc
        exact J223 x1 x5 M20 hF _ _ _ hH (lv_sub hl [0, 1, 3] rfl)
      · have hF := zi_t hF hc
        refine lv_aload_n hx hb dX8_putIn_173 rfl (lv_at hl 0 rfl) ?_
        refine z_getr hX hH 0 0 1 rfl rfl flX8_putIn_11 dX8_putIn_174 ?_
        refine z_sipush (v := 3201) hx hb dX8_putIn_177 (by decide +kernel) ?_
        refine lv_aload_n hx hb dX8_putIn_180 rfl (lv_at hl 0 rfl) ?_
        refine z_getr hX hH 0 0 1 rfl rfl flX8_putIn_11 dX8_putIn_181 ?_
        refine z_sipush (v := 3201) hx hb dX8_putIn_184 (by decide +kernel) ?_
        refine z_iald hX hH 1 3253 rfl (by decide) (by decide) dX8_putIn_187 ?_
        refine lv_iload_n hx hb dX8_putIn_188 rfl (lv_at hl 2 rfl) ?_
        refine z_iadd hx hb dX8_putIn_189 ?_
        refine lv_aload_n hx hb dX8_putIn_190 rfl (lv_at hl 0 rfl) ?_
        refine z_getr hX hH 0 0 1 rfl rfl flX8_putIn_11 dX8_putIn_191 ?_
        refine z_sipush (v := 3200) hx hb dX8_putIn_194 (by decide +kernel) ?_
        refine z_iald hX hH 1 3253 rfl (by decide) (by decide) dX8_putIn_197 ?_
        obtain ⟨h28, hF⟩ := zg_e hF
        obtain ⟨h29, hF⟩ := zg_e hF
        refine z_icmp_ge (tgt := 214) hx hb h28 h29 dX8_putIn_198 (by decide) (fun hc => ?_) (fun hc => ?_)
        · have hF := zi_t hF hc
          refine lv_aload_n hx hb dX8_putIn_214 rfl (lv_at hl 0 rfl) ?_
          refine z_getr hX hH 0 0 1 rfl rfl flX8_putIn_11 dX8_putIn_215 ?_
          refine z_sipush (v := 3200) hx hb dX8_putIn_218 (by decide +kernel) ?_
          refine z_iald hX hH 1 3253 rfl (by decide) (by decide) dX8_putIn_221 ?_
          exact J222 x1 x5 (M20 1 3200) (3201:Int) M20 hF _ _ _ hH (lv_sub hl [0, 1, 3] rfl)
        · have hF := zi_f hF hc
          refine lv_aload_n hx hb dX8_putIn_201 rfl (lv_at hl 0 rfl) ?_
          refine z_getr hX hH 0 0 1 rfl rfl flX8_putIn_11 dX8_putIn_202 ?_
          refine z_sipush (v := 3201) hx hb dX8_putIn_205 (by decide +kernel) ?_
          refine z_iald hX hH 1 3253 rfl (by decide) (by decide) dX8_putIn_208 ?_
          refine lv_iload_n hx hb dX8_putIn_209 rfl (lv_at hl 2 rfl) ?_
          refine z_iadd hx hb dX8_putIn_210 ?_
          refine lv_goto (tgt := 222) hx hb dX8_putIn_211 (by decide) ?_
          exact J222 x1 x5 ((M20 1 3201) + x3) (3201:Int) M20 hF _ _ _ hH (lv_sub hl [0, 1, 3] rfl)
    · have hF := zi_t hF hc
      refine lv_aload_n hx hb dX8_putIn_130 rfl (lv_at hl 0 rfl) ?_
      refine z_getr hX hH 0 0 1 rfl rfl flX8_putIn_11 dX8_putIn_131 ?_
      refine z_sipush (v := 3201) hx hb dX8_putIn_134 (by decide +kernel) ?_
      refine lv_aload_n hx hb dX8_putIn_137 rfl (lv_at hl 0 rfl) ?_
      refine z_getr hX hH 0 0 1 rfl rfl flX8_putIn_11 dX8_putIn_138 ?_
      refine z_sipush (v := 3201) hx hb dX8_putIn_141 (by decide +kernel) ?_
      refine z_iald hX hH 1 3253 rfl (by decide) (by decide) dX8_putIn_144 ?_
      refine lv_iload_n hx hb dX8_putIn_145 rfl (lv_at hl 2 rfl) ?_
      obtain ⟨h32, hF⟩ := zg_e hF
      obtain ⟨h33, hF⟩ := zg_e hF
      refine z_icmp_le (tgt := 162) hx hb h32 h33 dX8_putIn_146 (by decide) (fun hc => ?_) (fun hc => ?_)
      · have hF := zi_t hF hc
        refine z_iconst hx hb dX8_putIn_162 ?_
        exact J163 x1 x5 (0:Int) (3201:Int) M20 hF _ _ _ hH (lv_sub hl [0, 1, 3] rfl)
      · have hF := zi_f hF hc
        refine lv_aload_n hx hb dX8_putIn_149 rfl (lv_at hl 0 rfl) ?_
        refine z_getr hX hH 0 0 1 rfl rfl flX8_putIn_11 dX8_putIn_150 ?_
        refine z_sipush (v := 3201) hx hb dX8_putIn_153 (by decide +kernel) ?_
        refine z_iald hX hH 1 3253 rfl (by decide) (by decide) dX8_putIn_156 ?_
        refine lv_iload_n hx hb dX8_putIn_157 rfl (lv_at hl 2 rfl) ?_
        refine z_isub hx hb dX8_putIn_158 ?_
        refine lv_goto (tgt := 163) hx hb dX8_putIn_159 (by decide) ?_
        exact J163 x1 x5 ((M20 1 3201) - x3) (3201:Int) M20 hF _ _ _ hH (lv_sub hl [0, 1, 3] rfl)
  have hl : lv_has ls 6 [(0, .ref (α 0)), (1, .int (nZ a1)), (2, .int (nZ a2)), (3, .int (nZ a3)), (4, .int (nZ a4))] := hl
  unfold fX8_putIn at hF
  refine lv_aload_n hx hb dX8_putIn_0 rfl (lv_at hl 0 rfl) ?_
  refine z_getr hX hH 0 0 1 rfl rfl flX8_putIn_11 dX8_putIn_1 ?_
  refine z_iconst hx hb dX8_putIn_4 ?_
  refine lv_iload_n hx hb dX8_putIn_5 rfl (lv_at hl 1 rfl) ?_
  refine z_iadd hx hb dX8_putIn_6 ?_
  obtain ⟨h1, hF⟩ := zg_e hF
  refine z_iald hX hH 1 3253 rfl h1 (by decide) dX8_putIn_7 ?_
  obtain ⟨v2, ev2, hF⟩ := zl_e hF
  refine z_istore ev2 (lv' := [(5, .int (nZ v2)), (0, .ref (α 0)), (1, .int (nZ a1)), (2, .int (nZ a2)), (3, .int (nZ a3)), (4, .int (nZ a4))]) hx hb dX8_putIn_8 hl (by decide) rfl (fun ls hl => ?_)
  refine lv_aload_n hx hb dX8_putIn_10 rfl (lv_at hl 1 rfl) ?_
  refine lv_iload_n hx hb dX8_putIn_11 rfl (lv_at hl 2 rfl) ?_
  refine lv_iload_n hx hb dX8_putIn_12 rfl (lv_at hl 4 rfl) ?_
  obtain ⟨M4, c3, hF⟩ := zc_e hF
  refine z_sameVv (As := [.int (nZ a1), .int (nZ a3)]) hX hH 0 8 (ctX8_weighs l D cs α N M a1 a3 M4 c3) (cwV 2 hts gX8_putIn_X8_weighs rfl rfl rfl (by decide +kernel) ⟨Nat.le_of_ble_eq_true rfl, Nat.le_of_ble_eq_true rfl⟩) rfl rfl rfl hl.1 (Nat.le_of_ble_eq_true rfl) rfl dX8_putIn_13 ⟨Nat.zero_le _, Nat.zero_le _⟩ (fun H locs hH => ?_)
  refine lv_aload_n hx hb dX8_putIn_16 rfl (lv_at hl 1 rfl) ?_
  refine z_getr hX hH 0 0 1 rfl rfl flX8_putIn_11 dX8_putIn_17 ?_
  refine z_sipush (v := 400) hx hb dX8_putIn_20 (by decide +kernel) ?_
  refine lv_iload_n hx hb dX8_putIn_23 rfl (lv_at hl 2 rfl) ?_
  refine z_iadd hx hb dX8_putIn_24 ?_
  refine lv_iload_n hx hb dX8_putIn_25 rfl (lv_at hl 3 rfl) ?_
  obtain ⟨h5, hF⟩ := zg_e hF
  obtain ⟨M6, eM6, hF⟩ := zl_e hF
  refine z_iast hX hH 1 3253 eM6 rfl h5 (by decide) dX8_putIn_26 (fun H locs hH => ?_)
  refine lv_aload_n hx hb dX8_putIn_27 rfl (lv_at hl 1 rfl) ?_
  refine z_getr hX hH 0 0 1 rfl rfl flX8_putIn_11 dX8_putIn_28 ?_
  refine z_sipush (v := 1200) hx hb dX8_putIn_31 (by decide +kernel) ?_
  refine lv_iload_n hx hb dX8_putIn_34 rfl (lv_at hl 2 rfl) ?_
  refine z_iadd hx hb dX8_putIn_35 ?_
  refine lv_iload hx hb dX8_putIn_36 (lv_at hl 5 rfl) ?_
  obtain ⟨h7, hF⟩ := zg_e hF
  obtain ⟨M8, eM8, hF⟩ := zl_e hF
  refine z_iast hX hH 1 3253 eM8 rfl h7 (by decide) dX8_putIn_38 (fun H locs hH => ?_)
  refine lv_iload hx hb dX8_putIn_39 (lv_at hl 0 rfl) ?_
  refine z_iconst hx hb dX8_putIn_41 ?_
  obtain ⟨h9, hF⟩ := zg_e hF
  refine z_icmp_eq (tgt := 51) hx hb h9 (by decide) dX8_putIn_42 (by decide) (fun hc => ?_) (fun hc => ?_)
  · have hF := zi_t hF hc
    exact J51 a1 M8 hF _ _ _ hH (lv_sub hl [1, 2] rfl)
  · have hF := zi_f hF hc
    refine lv_iload hx hb dX8_putIn_45 (lv_at hl 0 rfl) ?_
    refine z_iconst hx hb dX8_putIn_47 ?_
    refine z_icmp_ne (tgt := 62) hx hb h9 (by decide) dX8_putIn_48 (by decide) (fun hc => ?_) (fun hc => ?_)
    · have hF := zi_f hF hc
      refine lv_aload_n hx hb dX8_putIn_62 rfl (lv_at hl 1 rfl) ?_
      refine z_getr hX hH 0 0 1 rfl rfl flX8_putIn_11 dX8_putIn_63 ?_
      refine z_sipush (v := 3213) hx hb dX8_putIn_66 (by decide +kernel) ?_
      refine lv_dup2_11 hx hb dX8_putIn_69 rfl rfl ?_
      refine z_iald hX hH 1 3253 rfl (by decide) (by decide) dX8_putIn_70 ?_
      refine lv_iload hx hb dX8_putIn_71 (lv_at hl 5 rfl) ?_
      refine z_iadd hx hb dX8_putIn_73 ?_
      obtain ⟨M14, eM14, hF⟩ := zl_e hF
      refine z_iast hX hH 1 3253 eM14 rfl (by decide) (by decide) dX8_putIn_74 (fun H locs hH => ?_)
      refine lv_aload_n hx hb dX8_putIn_75 rfl (lv_at hl 1 rfl) ?_
      refine z_getr hX hH 0 0 1 rfl rfl flX8_putIn_11 dX8_putIn_76 ?_
      refine z_sipush (v := 1600) hx hb dX8_putIn_79 (by decide +kernel) ?_
      refine lv_iload_n hx hb dX8_putIn_82 rfl (lv_at hl 2 rfl) ?_
      refine z_iadd hx hb dX8_putIn_83 ?_
      refine z_iconst hx hb dX8_putIn_84 ?_
      obtain ⟨h15, hF⟩ := zg_e hF
      obtain ⟨M16, eM16, hF⟩ := zl_e hF
      refine z_iast hX hH 1 3253 eM16 rfl h15 (by decide) dX8_putIn_85 (fun H locs hH => ?_)
      refine lv_aload_n hx hb dX8_putIn_86 rfl (lv_at hl 1 rfl) ?_
      refine z_getr hX hH 0 0 1 rfl rfl flX8_putIn_11 dX8_putIn_87 ?_
      refine z_sipush (v := 2400) hx hb dX8_putIn_90 (by decide +kernel) ?_
      refine lv_iload_n hx hb dX8_putIn_93 rfl (lv_at hl 2 rfl) ?_
      refine z_iadd hx hb dX8_putIn_94 ?_
      refine z_iconst hx hb dX8_putIn_95 ?_
      obtain ⟨h17, hF⟩ := zg_e hF
      obtain ⟨M18, eM18, hF⟩ := zl_e hF
      refine z_iast hX hH 1 3253 eM18 rfl h17 (by decide) dX8_putIn_96 (fun H locs hH => ?_)
      refine lv_aload_n hx hb dX8_putIn_97 rfl (lv_at hl 1 rfl) ?_
      refine z_getr hX hH 0 0 1 rfl rfl flX8_putIn_11 dX8_putIn_98 ?_
      refine z_sipush (v := 2000) hx hb dX8_putIn_101 (by decide +kernel) ?_
      refine lv_iload_n hx hb dX8_putIn_104 rfl (lv_at hl 2 rfl) ?_
      refine z_iadd hx hb dX8_putIn_105 ?_
      refine lv_iload hx hb dX8_putIn_106 (lv_at hl 0 rfl) ?_
      refine z_if_ne (tgt := 122) hx hb h9 dX8_putIn_108 (by decide) (fun hc => ?_) (fun hc => ?_)
      · have hF := zi_f hF hc
        refine z_iconst hx hb dX8_putIn_122 ?_
        exact J123 a1 a3 v2 (0:Int) ((2000:Int) + a1) M18 hF _ _ _ hH (lv_sub hl [1, 2, 4, 0] rfl)
      · have hF := zi_t hF hc
        refine lv_aload_n hx hb dX8_putIn_111 rfl (lv_at hl 1 rfl) ?_
        refine z_getr hX hH 0 0 1 rfl rfl flX8_putIn_11 dX8_putIn_112 ?_
        refine z_sipush (v := 3203) hx hb dX8_putIn_115 (by decide +kernel) ?_
        refine z_iald hX hH 1 3253 rfl (by decide) (by decide) dX8_putIn_118 ?_
        refine lv_goto (tgt := 123) hx hb dX8_putIn_119 (by decide) ?_
        exact J123 a1 a3 v2 (M18 1 3203) ((2000:Int) + a1) M18 hF _ _ _ hH (lv_sub hl [1, 2, 4, 0] rfl)
    · have hF := zi_t hF hc
      exact J51 a1 M8 hF _ _ _ hH (lv_sub hl [1, 2] rfl)
theorem flX8_gets_11 : zF RX8 wsX8_gets 11 8 0 := ⟨_, TX8, _, rfl, by decide +kernel, by decide +kernel, by decide, rfl⟩
set_option maxHeartbeats 4000000 in
set_option maxRecDepth 100000 in
theorem ctX8_gets (l : Launch) (D : va_G) (cs : Nat → ClassId) (α : Nat → Nat) (N : Nat) (M : zM) (a1 : Int) (r : Int) (M' : zM) (hF : fX8_gets N a1 M = some (r, M')) : Met l yX8_gets wsX8_gets ({ frames := 4, cells := 0, slots := 0, locals := 88 }) (zPre D cs LM α M [.ref (α 0), .int (nZ a1)]) (zQi D cs LM α r M') 0 0 (zA LM.length α) := by
  refine z_met (cc := cX8_gets) (maxL := 2) (ret := (some .boolean)) (by decide +kernel) rfl RX8 rfl (Nat.le_of_ble_eq_true rfl) ?_
  intro p e s m below meth c ls hX hr hlocks hH hl
  have hx := hX.1.1
  have hb := hX.1.2.1
  have hts := hX.1.2.2.2.2
  have J45 : ∀ (y0 : Int) (y1 : Int) (y2 : Int) (M0 : zM), sX8_gets_45 N y0 y1 y2 M0 = some (r, M') → zGo p l e (headSpec wsX8_gets ({ frames := 4, cells := 0, slots := 0, locals := 88 })).room s m ([.ref (α 0), .int (nZ a1)] : List Value).toArray below meth c (MQ below (zQi D cs LM α r M') ([.ref (α 0), .int (nZ a1)] : List Value).toArray s 0 0 (zA LM.length α)) D cs LM α (zA LM.length α) 2 45 [] [.int (nZ y0), .int (nZ y1), .int (nZ y2), .ref (α 1)] M0 := by
    intro y0 y1 y2 M0 hF H locs ls hH hl
    unfold sX8_gets_45 at hF
    refine z_iadd hx hb dX8_gets_45 ?_
    obtain ⟨h15, hF⟩ := zg_e hF
    obtain ⟨M16, eM16, hF⟩ := zl_e hF
    refine z_iast hX hH 1 3253 eM16 rfl h15 (by decide) dX8_gets_46 (fun H locs hH => ?_)
    refine z_iconst hx hb dX8_gets_47 ?_
    exact z_iret hX hr hlocks hH hF rfl dX8_gets_48
  have hl : lv_has ls 2 [(0, .ref (α 0)), (1, .int (nZ a1))] := hl
  unfold fX8_gets at hF
  refine lv_aload_n hx hb dX8_gets_0 rfl (lv_at hl 0 rfl) ?_
  refine lv_iload_n hx hb dX8_gets_1 rfl (lv_at hl 1 rfl) ?_
  obtain ⟨r3, M2, c1, hF⟩ := zc2_e hF
  refine z_sameVi (As := [.int (nZ a1)]) hX hH 0 8 (ctX8_isThing l D cs α N M a1 r3 M2 c1) (cwV 1 hts gX8_gets_X8_isThing rfl rfl rfl (by decide +kernel) ⟨Nat.le_of_ble_eq_true rfl, Nat.le_of_ble_eq_true rfl⟩) rfl rfl rfl hl.1 (Nat.le_of_ble_eq_true rfl) rfl dX8_gets_2 ⟨Nat.zero_le _, Nat.zero_le _⟩ (fun H locs hH => ?_)
  obtain ⟨h4, hF⟩ := zg_e hF
  refine z_if_ne (tgt := 49) hx hb h4 dX8_gets_5 (by decide) (fun hc => ?_) (fun hc => ?_)
  · have hF := zi_f hF hc
    refine lv_aload_n hx hb dX8_gets_49 rfl (lv_at hl 0 rfl) ?_
    refine lv_iload_n hx hb dX8_gets_50 rfl (lv_at hl 1 rfl) ?_
    obtain ⟨M6, c5, hF⟩ := zc_e hF
    refine z_sameVv (As := [.int (nZ a1)]) hX hH 0 8 (ctX8_hit l D cs α N M2 a1 M6 c5) (cwV 1 hts gX8_gets_X8_hit rfl rfl rfl (by decide +kernel) ⟨Nat.le_of_ble_eq_true rfl, Nat.le_of_ble_eq_true rfl⟩) rfl rfl rfl hl.1 (Nat.le_of_ble_eq_true rfl) rfl dX8_gets_51 ⟨Nat.zero_le _, Nat.zero_le _⟩ (fun H locs hH => ?_)
    refine lv_aload_n hx hb dX8_gets_54 rfl (lv_at hl 0 rfl) ?_
    refine z_getr hX hH 0 0 1 rfl rfl flX8_gets_11 dX8_gets_55 ?_
    refine z_sipush (v := 3212) hx hb dX8_gets_58 (by decide +kernel) ?_
    refine lv_dup2_11 hx hb dX8_gets_61 rfl rfl ?_
    refine z_iald hX hH 1 3253 rfl (by decide) (by decide) dX8_gets_62 ?_
    refine lv_aload_n hx hb dX8_gets_63 rfl (lv_at hl 0 rfl) ?_
    refine z_getr hX hH 0 0 1 rfl rfl flX8_gets_11 dX8_gets_64 ?_
    refine z_sipush (v := 1200) hx hb dX8_gets_67 (by decide +kernel) ?_
    refine lv_iload_n hx hb dX8_gets_70 rfl (lv_at hl 1 rfl) ?_
    refine z_iadd hx hb dX8_gets_71 ?_
    obtain ⟨h7, hF⟩ := zg_e hF
    refine z_iald hX hH 1 3253 rfl h7 (by decide) dX8_gets_72 ?_
    refine z_iadd hx hb dX8_gets_73 ?_
    obtain ⟨M8, eM8, hF⟩ := zl_e hF
    refine z_iast hX hH 1 3253 eM8 rfl (by decide) (by decide) dX8_gets_74 (fun H locs hH => ?_)
    refine lv_aload_n hx hb dX8_gets_75 rfl (lv_at hl 0 rfl) ?_
    refine z_getr hX hH 0 0 1 rfl rfl flX8_gets_11 dX8_gets_76 ?_
    refine z_sipush (v := 3209) hx hb dX8_gets_79 (by decide +kernel) ?_
    refine lv_dup2_11 hx hb dX8_gets_82 rfl rfl ?_
    refine z_iald hX hH 1 3253 rfl (by decide) (by decide) dX8_gets_83 ?_
    refine z_iconst hx hb dX8_gets_84 ?_
    refine z_iadd hx hb dX8_gets_85 ?_
    obtain ⟨M9, eM9, hF⟩ := zl_e hF
    refine z_iast hX hH 1 3253 eM9 rfl (by decide) (by decide) dX8_gets_86 (fun H locs hH => ?_)
    refine lv_aload_n hx hb dX8_gets_87 rfl (lv_at hl 0 rfl) ?_
    obtain ⟨M11, c10, hF⟩ := zc_e hF
    refine z_sameVv (As := []) hX hH 0 8 (ctX8_trim l D cs α N M9  M11 c10) (cwV 0 hts gX8_gets_X8_trim rfl rfl rfl (by decide +kernel) ⟨Nat.le_of_ble_eq_true rfl, Nat.le_of_ble_eq_true rfl⟩) rfl rfl rfl hl.1 (Nat.le_of_ble_eq_true rfl) rfl dX8_gets_88 ⟨Nat.zero_le _, Nat.zero_le _⟩ (fun H locs hH => ?_)
    refine z_iconst hx hb dX8_gets_91 ?_
    exact z_iret hX hr hlocks hH hF rfl dX8_gets_92
  · have hF := zi_t hF hc
    refine lv_aload_n hx hb dX8_gets_8 rfl (lv_at hl 0 rfl) ?_
    refine z_getr hX hH 0 0 1 rfl rfl flX8_gets_11 dX8_gets_9 ?_
    refine z_sipush (v := 3210) hx hb dX8_gets_12 (by decide +kernel) ?_
    refine lv_dup2_11 hx hb dX8_gets_15 rfl rfl ?_
    refine z_iald hX hH 1 3253 rfl (by decide) (by decide) dX8_gets_16 ?_
    refine z_iconst hx hb dX8_gets_17 ?_
    refine z_iadd hx hb dX8_gets_18 ?_
    obtain ⟨M12, eM12, hF⟩ := zl_e hF
    refine z_iast hX hH 1 3253 eM12 rfl (by decide) (by decide) dX8_gets_19 (fun H locs hH => ?_)
    refine lv_aload_n hx hb dX8_gets_20 rfl (lv_at hl 0 rfl) ?_
    refine z_getr hX hH 0 0 1 rfl rfl flX8_gets_11 dX8_gets_21 ?_
    refine z_sipush (v := 3211) hx hb dX8_gets_24 (by decide +kernel) ?_
    refine lv_dup2_11 hx hb dX8_gets_27 rfl rfl ?_
    refine z_iald hX hH 1 3253 rfl (by decide) (by decide) dX8_gets_28 ?_
    refine lv_aload_n hx hb dX8_gets_29 rfl (lv_at hl 0 rfl) ?_
    refine z_getr hX hH 0 0 1 rfl rfl flX8_gets_11 dX8_gets_30 ?_
    refine z_iconst hx hb dX8_gets_33 ?_
    refine lv_iload_n hx hb dX8_gets_34 rfl (lv_at hl 1 rfl) ?_
    refine z_iadd hx hb dX8_gets_35 ?_
    obtain ⟨h13, hF⟩ := zg_e hF
    refine z_iald hX hH 1 3253 rfl h13 (by decide) dX8_gets_36 ?_
    obtain ⟨h14, hF⟩ := zg_e hF
    refine z_if_eq (tgt := 44) hx hb h14 dX8_gets_37 (by decide) (fun hc => ?_) (fun hc => ?_)
    · have hF := zi_t hF hc
      refine z_iconst hx hb dX8_gets_44 ?_
      exact J45 (0:Int) (M12 1 3211) (3211:Int) M12 hF _ _ _ hH (lv_sub hl [] rfl)
    · have hF := zi_f hF hc
      refine z_iconst hx hb dX8_gets_40 ?_
      refine lv_goto (tgt := 45) hx hb dX8_gets_41 (by decide) ?_
      exact J45 (1:Int) (M12 1 3211) (3211:Int) M12 hF _ _ _ hH (lv_sub hl [] rfl)
theorem flX8_drops_11 : zF RX8 wsX8_drops 11 8 0 := ⟨_, TX8, _, rfl, by decide +kernel, by decide +kernel, by decide, rfl⟩
set_option maxHeartbeats 4000000 in
set_option maxRecDepth 100000 in
theorem ctX8_drops (l : Launch) (D : va_G) (cs : Nat → ClassId) (α : Nat → Nat) (N : Nat) (M : zM) (a1 : Int) (r : Int) (M' : zM) (hF : fX8_drops N a1 M = some (r, M')) : Met l yX8_drops wsX8_drops ({ frames := 1, cells := 0, slots := 0, locals := 22 }) (zPre D cs LM α M [.ref (α 0), .int (nZ a1)]) (zQi D cs LM α r M') 0 0 (zA LM.length α) := by
  refine z_met (cc := cX8_drops) (maxL := 3) (ret := (some .int)) (by decide +kernel) rfl RX8 rfl (Nat.le_of_ble_eq_true rfl) ?_
  intro p e s m below meth c ls hX hr hlocks hH hl
  have hx := hX.1.1
  have hb := hX.1.2.1
  have hts := hX.1.2.2.2.2
  have hl : lv_has ls 3 [(0, .ref (α 0)), (1, .int (nZ a1))] := hl
  unfold fX8_drops at hF
  refine lv_aload_n hx hb dX8_drops_0 rfl (lv_at hl 0 rfl) ?_
  refine z_getr hX hH 0 0 1 rfl rfl flX8_drops_11 dX8_drops_1 ?_
  refine z_iconst hx hb dX8_drops_4 ?_
  refine lv_iload_n hx hb dX8_drops_5 rfl (lv_at hl 1 rfl) ?_
  refine z_iadd hx hb dX8_drops_6 ?_
  obtain ⟨h1, hF⟩ := zg_e hF
  refine z_iald hX hH 1 3253 rfl h1 (by decide) dX8_drops_7 ?_
  obtain ⟨v2, ev2, hF⟩ := zl_e hF
  refine z_istore_n ev2 (lv' := [(2, .int (nZ v2)), (0, .ref (α 0)), (1, .int (nZ a1))]) hx hb dX8_drops_8 rfl hl (by decide) rfl (fun ls hl => ?_)
  refine lv_aload_n hx hb dX8_drops_9 rfl (lv_at hl 1 rfl) ?_
  refine lv_iload_n hx hb dX8_drops_10 rfl (lv_at hl 2 rfl) ?_
  refine z_iconst hx hb dX8_drops_11 ?_
  obtain ⟨M4, c3, hF⟩ := zc_e hF
  refine z_sameVv (As := [.int (nZ a1), .int (nZ (0:Int))]) hX hH 0 8 (ctX8_goes l D cs α N M a1 (0:Int) M4 c3) (cwV 2 hts gX8_drops_X8_goes rfl rfl rfl (by decide +kernel) ⟨Nat.le_of_ble_eq_true rfl, Nat.le_of_ble_eq_true rfl⟩) rfl rfl rfl hl.1 (Nat.le_of_ble_eq_true rfl) rfl dX8_drops_12 ⟨Nat.zero_le _, Nat.zero_le _⟩ (fun H locs hH => ?_)
  refine lv_iload_n hx hb dX8_drops_15 rfl (lv_at hl 0 rfl) ?_
  exact z_iret hX hr hlocks hH hF rfl dX8_drops_16
theorem flX8_capacity_11 : zF RX8 wsX8_capacity 11 8 0 := ⟨_, TX8, _, rfl, by decide +kernel, by decide +kernel, by decide, rfl⟩
set_option maxHeartbeats 4000000 in
set_option maxRecDepth 100000 in
theorem ctX8_capacity (l : Launch) (D : va_G) (cs : Nat → ClassId) (α : Nat → Nat) (N : Nat) (M : zM) (a1 : Int) (M' : zM) (hF : fX8_capacity N a1 M = some M') : Met l yX8_capacity wsX8_capacity ({ frames := 4, cells := 0, slots := 0, locals := 88 }) (zPre D cs LM α M [.ref (α 0), .int (nZ a1)]) (zQv D cs LM α M') 0 0 (zA LM.length α) := by
  refine z_met (cc := cX8_capacity) (maxL := 2) (ret := none) (by decide +kernel) rfl RX8 rfl (Nat.le_of_ble_eq_true rfl) ?_
  intro p e s m below meth c ls hX hr hlocks hH hl
  have hx := hX.1.1
  have hb := hX.1.2.1
  have hts := hX.1.2.2.2.2
  have J40 : ∀ (y0 : Int) (y1 : Int) (M0 : zM), sX8_capacity_40 N y0 y1 M0 = some M' → zGo p l e (headSpec wsX8_capacity ({ frames := 4, cells := 0, slots := 0, locals := 88 })).room s m ([.ref (α 0), .int (nZ a1)] : List Value).toArray below meth c (MQ below (zQv D cs LM α M') ([.ref (α 0), .int (nZ a1)] : List Value).toArray s 0 0 (zA LM.length α)) D cs LM α (zA LM.length α) 2 40 [(0, .ref (α 0))] [.int (nZ y0), .int (nZ y1), .ref (α 1)] M0 := by
    intro y0 y1 M0 hF H locs ls hH hl
    unfold sX8_capacity_40 at hF
    obtain ⟨h4, hF⟩ := zg_e hF
    obtain ⟨M5, eM5, hF⟩ := zl_e hF
    refine z_iast hX hH 1 3253 eM5 rfl h4 (by decide) dX8_capacity_40 (fun H locs hH => ?_)
    refine lv_aload_n hx hb dX8_capacity_41 rfl (lv_at hl 0 rfl) ?_
    obtain ⟨M7, c6, hF⟩ := zc_e hF
    refine z_sameVv (As := []) hX hH 0 8 (ctX8_trim l D cs α N M5  M7 c6) (cwV 0 hts gX8_capacity_X8_trim rfl rfl rfl (by decide +kernel) ⟨Nat.le_of_ble_eq_true rfl, Nat.le_of_ble_eq_true rfl⟩) rfl rfl rfl hl.1 (Nat.le_of_ble_eq_true rfl) rfl dX8_capacity_42 ⟨Nat.zero_le _, Nat.zero_le _⟩ (fun H locs hH => ?_)
    exact z_vret hX hr hlocks hH hF dX8_capacity_45
  have hl : lv_has ls 2 [(0, .ref (α 0)), (1, .int (nZ a1))] := hl
  unfold fX8_capacity at hF
  refine lv_aload_n hx hb dX8_capacity_0 rfl (lv_at hl 0 rfl) ?_
  refine z_getr hX hH 0 0 1 rfl rfl flX8_capacity_11 dX8_capacity_1 ?_
  refine z_sipush (v := 3200) hx hb dX8_capacity_4 (by decide +kernel) ?_
  refine lv_iload_n hx hb dX8_capacity_7 rfl (lv_at hl 1 rfl) ?_
  obtain ⟨M1, eM1, hF⟩ := zl_e hF
  refine z_iast hX hH 1 3253 eM1 rfl (by decide) (by decide) dX8_capacity_8 (fun H locs hH => ?_)
  refine lv_aload_n hx hb dX8_capacity_9 rfl (lv_at hl 0 rfl) ?_
  refine z_getr hX hH 0 0 1 rfl rfl flX8_capacity_11 dX8_capacity_10 ?_
  refine z_sipush (v := 3201) hx hb dX8_capacity_13 (by decide +kernel) ?_
  refine lv_aload_n hx hb dX8_capacity_16 rfl (lv_at hl 0 rfl) ?_
  refine z_getr hX hH 0 0 1 rfl rfl flX8_capacity_11 dX8_capacity_17 ?_
  refine z_sipush (v := 3201) hx hb dX8_capacity_20 (by decide +kernel) ?_
  refine z_iald hX hH 1 3253 rfl (by decide) (by decide) dX8_capacity_23 ?_
  refine lv_iload_n hx hb dX8_capacity_24 rfl (lv_at hl 1 rfl) ?_
  obtain ⟨h2, hF⟩ := zg_e hF
  obtain ⟨h3, hF⟩ := zg_e hF
  refine z_icmp_le (tgt := 32) hx hb h2 h3 dX8_capacity_25 (by decide) (fun hc => ?_) (fun hc => ?_)
  · have hF := zi_t hF hc
    refine lv_aload_n hx hb dX8_capacity_32 rfl (lv_at hl 0 rfl) ?_
    refine z_getr hX hH 0 0 1 rfl rfl flX8_capacity_11 dX8_capacity_33 ?_
    refine z_sipush (v := 3201) hx hb dX8_capacity_36 (by decide +kernel) ?_
    refine z_iald hX hH 1 3253 rfl (by decide) (by decide) dX8_capacity_39 ?_
    exact J40 (M1 1 3201) (3201:Int) M1 hF _ _ _ hH (lv_sub hl [0] rfl)
  · have hF := zi_f hF hc
    refine lv_iload_n hx hb dX8_capacity_28 rfl (lv_at hl 1 rfl) ?_
    refine lv_goto (tgt := 40) hx hb dX8_capacity_29 (by decide) ?_
    exact J40 a1 (3201:Int) M1 hF _ _ _ hH (lv_sub hl [0] rfl)
theorem flX8_set_11 : zF RX8 wsX8_set 11 8 0 := ⟨_, TX8, _, rfl, by decide +kernel, by decide +kernel, by decide, rfl⟩
set_option maxHeartbeats 4000000 in
set_option maxRecDepth 100000 in
theorem ctX8_set (l : Launch) (D : va_G) (cs : Nat → ClassId) (α : Nat → Nat) (N : Nat) (M : zM) (a1 : Int) (a2 : Int) (r : Int) (M' : zM) (hF : fX8_set N a1 a2 M = some (r, M')) : Met l yX8_set wsX8_set ({ frames := 5, cells := 0, slots := 0, locals := 109 }) (zPre D cs LM α M [.ref (α 0), .int (nZ a1), .int (nZ a2)]) (zQi D cs LM α r M') 0 0 (zA LM.length α) := by
  refine z_met (cc := cX8_set) (maxL := 5) (ret := (some .int)) (by decide +kernel) rfl RX8 rfl (Nat.le_of_ble_eq_true rfl) ?_
  intro p e s m below meth c ls hX hr hlocks hH hl
  have hx := hX.1.1
  have hb := hX.1.2.1
  have hts := hX.1.2.2.2.2
  have J120 : ∀ (x4 : Int) (M0 : zM), sX8_set_120 N x4 M0 = some (r, M') → zGo p l e (headSpec wsX8_set ({ frames := 5, cells := 0, slots := 0, locals := 109 })).room s m ([.ref (α 0), .int (nZ a1), .int (nZ a2)] : List Value).toArray below meth c (MQ below (zQi D cs LM α r M') ([.ref (α 0), .int (nZ a1), .int (nZ a2)] : List Value).toArray s 0 0 (zA LM.length α)) D cs LM α (zA LM.length α) 5 120 [(4, .int (nZ x4))] [] M0 := by
    intro x4 M0 hF H locs ls hH hl
    unfold sX8_set_120 at hF
    refine lv_iload hx hb dX8_set_120 (lv_at hl 0 rfl) ?_
    exact z_iret hX hr hlocks hH hF rfl dX8_set_122
  have J68 : ∀ (x1 : Int) (x2 : Int) (y0 : Int) (M0 : zM), sX8_set_68 N x1 x2 y0 M0 = some (r, M') → zGo p l e (headSpec wsX8_set ({ frames := 5, cells := 0, slots := 0, locals := 109 })).room s m ([.ref (α 0), .int (nZ a1), .int (nZ a2)] : List Value).toArray below meth c (MQ below (zQi D cs LM α r M') ([.ref (α 0), .int (nZ a1), .int (nZ a2)] : List Value).toArray s 0 0 (zA LM.length α)) D cs LM α (zA LM.length α) 5 68 [(0, .ref (α 0)), (1, .int (nZ x1)), (2, .int (nZ x2))] [.int (nZ y0)] M0 := by
    intro x1 x2 y0 M0 hF H locs ls hH hl
    unfold sX8_set_68 at hF
    obtain ⟨v7, ev7, hF⟩ := zl_e hF
    refine z_istore_n ev7 (lv' := [(3, .int (nZ v7)), (0, .ref (α 0)), (1, .int (nZ x1)), (2, .int (nZ x2))]) hx hb dX8_set_68 rfl hl (by decide) rfl (fun ls hl => ?_)
    refine lv_iload_n hx hb dX8_set_69 rfl (lv_at hl 0 rfl) ?_
    obtain ⟨h8, hF⟩ := zg_e hF
    refine z_if_ne (tgt := 76) hx hb h8 dX8_set_70 (by decide) (fun hc => ?_) (fun hc => ?_)
    · have hF := zi_f hF hc
      refine lv_aload_n hx hb dX8_set_76 rfl (lv_at hl 1 rfl) ?_
      refine z_getr hX hH 0 0 1 rfl rfl flX8_set_11 dX8_set_77 ?_
      refine z_sipush (v := 3200) hx hb dX8_set_80 (by decide +kernel) ?_
      refine lv_iload_n hx hb dX8_set_83 rfl (lv_at hl 2 rfl) ?_
      refine z_iadd hx hb dX8_set_84 ?_
      obtain ⟨h9, hF⟩ := zg_e hF
      refine z_iald hX hH 1 3253 rfl h9 (by decide) dX8_set_85 ?_
      obtain ⟨v10, ev10, hF⟩ := zl_e hF
      refine z_istore ev10 (lv' := [(4, .int (nZ v10)), (3, .int (nZ v7)), (0, .ref (α 0)), (1, .int (nZ x1)), (2, .int (nZ x2))]) hx hb dX8_set_86 hl (by decide) rfl (fun ls hl => ?_)
      refine lv_iload_n hx hb dX8_set_88 rfl (lv_at hl 3 rfl) ?_
      obtain ⟨h11, hF⟩ := zg_e hF
      refine z_if_ne (tgt := 100) hx hb h11 dX8_set_89 (by decide) (fun hc => ?_) (fun hc => ?_)
      · have hF := zi_f hF hc
        refine lv_aload_n hx hb dX8_set_100 rfl (lv_at hl 2 rfl) ?_
        refine z_getr hX hH 0 0 1 rfl rfl flX8_set_11 dX8_set_101 ?_
        refine z_sipush (v := 3200) hx hb dX8_set_104 (by decide +kernel) ?_
        refine lv_iload_n hx hb dX8_set_107 rfl (lv_at hl 3 rfl) ?_
        refine z_iadd hx hb dX8_set_108 ?_
        refine lv_iload_n hx hb dX8_set_109 rfl (lv_at hl 4 rfl) ?_
        obtain ⟨M12, eM12, hF⟩ := zl_e hF
        refine z_iast hX hH 1 3253 eM12 rfl h9 (by decide) dX8_set_110 (fun H locs hH => ?_)
        refine lv_iload_n hx hb dX8_set_111 rfl (lv_at hl 3 rfl) ?_
        refine z_iconst hx hb dX8_set_112 ?_
        refine z_icmp_ne (tgt := 120) hx hb h11 (by decide) dX8_set_113 (by decide) (fun hc => ?_) (fun hc => ?_)
        · have hF := zi_f hF hc
          exact J120 v10 M12 hF _ _ _ hH (lv_sub hl [0] rfl)
        · have hF := zi_t hF hc
          refine lv_aload_n hx hb dX8_set_116 rfl (lv_at hl 2 rfl) ?_
          obtain ⟨M14, c13, hF⟩ := zc_e hF
          refine z_sameVv (As := []) hX hH 0 8 (ctX8_trim l D cs α N M12  M14 c13) (cwV 0 hts gX8_set_X8_trim rfl rfl rfl (by decide +kernel) ⟨Nat.le_of_ble_eq_true rfl, Nat.le_of_ble_eq_true rfl⟩) rfl rfl rfl hl.1 (Nat.le_of_ble_eq_true rfl) rfl dX8_set_117 ⟨Nat.zero_le _, Nat.zero_le _⟩ (fun H locs hH => ?_)
          exact J120 v10 M14 hF _ _ _ hH (lv_sub hl [0] rfl)
      · have hF := zi_t hF hc
        refine lv_aload_n hx hb dX8_set_92 rfl (lv_at hl 2 rfl) ?_
        refine lv_iload_n hx hb dX8_set_93 rfl (lv_at hl 4 rfl) ?_
        obtain ⟨M16, c15, hF⟩ := zc_e hF
        refine z_sameVv (As := [.int (nZ x2)]) hX hH 0 8 (ctX8_capacity l D cs α N M0 x2 M16 c15) (cwV 1 hts gX8_set_X8_capacity rfl rfl rfl (by decide +kernel) ⟨Nat.le_of_ble_eq_true rfl, Nat.le_of_ble_eq_true rfl⟩) rfl rfl rfl hl.1 (Nat.le_of_ble_eq_true rfl) rfl dX8_set_94 ⟨Nat.zero_le _, Nat.zero_le _⟩ (fun H locs hH => ?_)
        refine lv_goto (tgt := 120) hx hb dX8_set_97 (by decide) ?_
        exact J120 v10 M16 hF _ _ _ hH (lv_sub hl [0] rfl)
    · have hF := zi_t hF hc
      refine z_bipush (v := -2) hx hb dX8_set_73 (by decide +kernel) ?_
      exact z_iret hX hr hlocks hH hF rfl dX8_set_75
  have hl : lv_has ls 5 [(0, .ref (α 0)), (1, .int (nZ a1)), (2, .int (nZ a2))] := hl
  unfold fX8_set at hF
  refine lv_iload_n hx hb dX8_set_0 rfl (lv_at hl 1 rfl) ?_
  refine z_iconst hx hb dX8_set_1 ?_
  refine z_iconst hx hb dX8_set_2 ?_
  obtain ⟨r1, c2, hF⟩ := zc_e hF
  refine z_callSi (As := [.int (nZ a1), .int (nZ (0:Int)), .int (nZ (3:Int))]) (is := []) (Ll := []) hX hH rfl (ctX8_in l D cs (zsb [] α) N (zpk [] M) a1 (0:Int) (3:Int) r1 c2) (va_cwS 3 hts gX8_set_X8_in rfl rfl rfl (by decide +kernel) ⟨Nat.le_of_ble_eq_true rfl, Nat.le_of_ble_eq_true rfl⟩) rfl hl.1 (Nat.le_of_ble_eq_true rfl) rfl dX8_set_3 ⟨Nat.zero_le _, Nat.zero_le _⟩ (fun H locs hH => ?_)
  have hH : zH D cs LM α M (zA LM.length α) s H locs := hH
  obtain ⟨h3, hF⟩ := zg_e hF
  refine z_if_ne (tgt := 11) hx hb h3 dX8_set_6 (by decide) (fun hc => ?_) (fun hc => ?_)
  · have hF := zi_f hF hc
    refine lv_iload_n hx hb dX8_set_11 rfl (lv_at hl 1 rfl) ?_
    obtain ⟨h4, hF⟩ := zg_e hF
    refine z_if_ne (tgt := 25) hx hb h4 dX8_set_12 (by decide) (fun hc => ?_) (fun hc => ?_)
    · have hF := zi_f hF hc
      refine lv_iload_n hx hb dX8_set_25 rfl (lv_at hl 1 rfl) ?_
      refine z_iconst hx hb dX8_set_26 ?_
      refine z_icmp_ne (tgt := 46) hx hb h4 (by decide) dX8_set_27 (by decide) (fun hc => ?_) (fun hc => ?_)
      · have hF := zi_f hF hc
        refine lv_iload_n hx hb dX8_set_46 rfl (lv_at hl 1 rfl) ?_
        refine z_iconst hx hb dX8_set_47 ?_
        refine z_icmp_ne (tgt := 61) hx hb h4 (by decide) dX8_set_48 (by decide) (fun hc => ?_) (fun hc => ?_)
        · have hF := zi_f hF hc
          refine lv_iload_n hx hb dX8_set_61 rfl (lv_at hl 2 rfl) ?_
          refine z_iconst hx hb dX8_set_62 ?_
          refine z_bipush (v := 9) hx hb dX8_set_63 (by decide +kernel) ?_
          obtain ⟨r5, c6, hF⟩ := zc_e hF
          refine z_callSi (As := [.int (nZ a2), .int (nZ (0:Int)), .int (nZ (9:Int))]) (is := []) (Ll := []) hX hH rfl (ctX8_in l D cs (zsb [] α) N (zpk [] M) a2 (0:Int) (9:Int) r5 c6) (va_cwS 3 hts gX8_set_X8_in rfl rfl rfl (by decide +kernel) ⟨Nat.le_of_ble_eq_true rfl, Nat.le_of_ble_eq_true rfl⟩) rfl hl.1 (Nat.le_of_ble_eq_true rfl) rfl dX8_set_65 ⟨Nat.zero_le _, Nat.zero_le _⟩ (fun H locs hH => ?_)
          have hH : zH D cs LM α M (zA LM.length α) s H locs := hH
          exact J68 a1 a2 r5 M hF _ _ _ hH (lv_sub hl [0, 1, 2] rfl)
        · have hF := zi_t hF hc
          refine lv_iload_n hx hb dX8_set_51 rfl (lv_at hl 2 rfl) ?_
          refine z_iconst hx hb dX8_set_52 ?_
          refine z_bipush (v := 9) hx hb dX8_set_53 (by decide +kernel) ?_
          obtain ⟨r17, c18, hF⟩ := zc_e hF
          refine z_callSi (As := [.int (nZ a2), .int (nZ (1:Int)), .int (nZ (9:Int))]) (is := []) (Ll := []) hX hH rfl (ctX8_in l D cs (zsb [] α) N (zpk [] M) a2 (1:Int) (9:Int) r17 c18) (va_cwS 3 hts gX8_set_X8_in rfl rfl rfl (by decide +kernel) ⟨Nat.le_of_ble_eq_true rfl, Nat.le_of_ble_eq_true rfl⟩) rfl hl.1 (Nat.le_of_ble_eq_true rfl) rfl dX8_set_55 ⟨Nat.zero_le _, Nat.zero_le _⟩ (fun H locs hH => ?_)
          have hH : zH D cs LM α M (zA LM.length α) s H locs := hH
          refine lv_goto (tgt := 68) hx hb dX8_set_58 (by decide) ?_
          exact J68 a1 a2 r17 M hF _ _ _ hH (lv_sub hl [0, 1, 2] rfl)
      · have hF := zi_t hF hc
        refine lv_iload_n hx hb dX8_set_30 rfl (lv_at hl 2 rfl) ?_
        refine z_iconst hx hb dX8_set_31 ?_
        refine lv_aload_n hx hb dX8_set_32 rfl (lv_at hl 0 rfl) ?_
        refine z_getr hX hH 0 0 1 rfl rfl flX8_set_11 dX8_set_33 ?_
        refine z_sipush (v := 3200) hx hb dX8_set_36 (by decide +kernel) ?_
        refine z_iald hX hH 1 3253 rfl (by decide) (by decide) dX8_set_39 ?_
        obtain ⟨r19, c20, hF⟩ := zc_e hF
        refine z_callSi (As := [.int (nZ a2), .int (nZ (0:Int)), .int (nZ (M 1 3200))]) (is := []) (Ll := []) hX hH rfl (ctX8_in l D cs (zsb [] α) N (zpk [] M) a2 (0:Int) (M 1 3200) r19 c20) (va_cwS 3 hts gX8_set_X8_in rfl rfl rfl (by decide +kernel) ⟨Nat.le_of_ble_eq_true rfl, Nat.le_of_ble_eq_true rfl⟩) rfl hl.1 (Nat.le_of_ble_eq_true rfl) rfl dX8_set_40 ⟨Nat.zero_le _, Nat.zero_le _⟩ (fun H locs hH => ?_)
        have hH : zH D cs LM α M (zA LM.length α) s H locs := hH
        refine lv_goto (tgt := 68) hx hb dX8_set_43 (by decide) ?_
        exact J68 a1 a2 r19 M hF _ _ _ hH (lv_sub hl [0, 1, 2] rfl)
    · have hF := zi_t hF hc
      refine lv_iload_n hx hb dX8_set_15 rfl (lv_at hl 2 rfl) ?_
      refine z_iconst hx hb dX8_set_16 ?_
      refine z_bipush (v := 99) hx hb dX8_set_17 (by decide +kernel) ?_
      obtain ⟨r21, c22, hF⟩ := zc_e hF
      refine z_callSi (As := [.int (nZ a2), .int (nZ (1:Int)), .int (nZ (99:Int))]) (is := []) (Ll := []) hX hH rfl (ctX8_in l D cs (zsb [] α) N (zpk [] M) a2 (1:Int) (99:Int) r21 c22) (va_cwS 3 hts gX8_set_X8_in rfl rfl rfl (by decide +kernel) ⟨Nat.le_of_ble_eq_true rfl, Nat.le_of_ble_eq_true rfl⟩) rfl hl.1 (Nat.le_of_ble_eq_true rfl) rfl dX8_set_19 ⟨Nat.zero_le _, Nat.zero_le _⟩ (fun H locs hH => ?_)
      have hH : zH D cs LM α M (zA LM.length α) s H locs := hH
      refine lv_goto (tgt := 68) hx hb dX8_set_22 (by decide) ?_
      exact J68 a1 a2 r21 M hF _ _ _ hH (lv_sub hl [0, 1, 2] rfl)
  · have hF := zi_t hF hc
    refine z_iconst hx hb dX8_set_9 ?_
    exact z_iret hX hr hlocks hH hF rfl dX8_set_10
theorem flX8_told_11 : zF RX8 wsX8_told 11 8 0 := ⟨_, TX8, _, rfl, by decide +kernel, by decide +kernel, by decide, rfl⟩
set_option maxHeartbeats 4000000 in
set_option maxRecDepth 100000 in
theorem ctX8_told (l : Launch) (D : va_G) (cs : Nat → ClassId) (α : Nat → Nat) (N : Nat) (M : zM) (a1 : Int) (r : Int) (M' : zM) (hF : fX8_told N a1 M = some (r, M')) : Met l yX8_told wsX8_told ({ frames := 1, cells := 0, slots := 0, locals := 22 }) (zPre D cs LM α M [.ref (α 0), .int (nZ a1)]) (zQi D cs LM α r M') 0 0 (zA LM.length α) := by
  refine z_met (cc := cX8_told) (maxL := 2) (ret := (some .int)) (by decide +kernel) rfl RX8 rfl (Nat.le_of_ble_eq_true rfl) ?_
  intro p e s m below meth c ls hX hr hlocks hH hl
  have hx := hX.1.1
  have hb := hX.1.2.1
  have hts := hX.1.2.2.2.2
  have hl : lv_has ls 2 [(0, .ref (α 0)), (1, .int (nZ a1))] := hl
  unfold fX8_told at hF
  refine lv_iload_n hx hb dX8_told_0 rfl (lv_at hl 1 rfl) ?_
  refine z_iconst hx hb dX8_told_1 ?_
  refine z_bipush (v := 13) hx hb dX8_told_2 (by decide +kernel) ?_
  obtain ⟨r1, c2, hF⟩ := zc_e hF
  refine z_callSi (As := [.int (nZ a1), .int (nZ (0:Int)), .int (nZ (13:Int))]) (is := []) (Ll := []) hX hH rfl (ctX8_in l D cs (zsb [] α) N (zpk [] M) a1 (0:Int) (13:Int) r1 c2) (va_cwS 3 hts gX8_told_X8_in rfl rfl rfl (by decide +kernel) ⟨Nat.le_of_ble_eq_true rfl, Nat.le_of_ble_eq_true rfl⟩) rfl hl.1 (Nat.le_of_ble_eq_true rfl) rfl dX8_told_4 ⟨Nat.zero_le _, Nat.zero_le _⟩ (fun H locs hH => ?_)
  have hH : zH D cs LM α M (zA LM.length α) s H locs := hH
  obtain ⟨h3, hF⟩ := zg_e hF
  refine z_if_ne (tgt := 12) hx hb h3 dX8_told_7 (by decide) (fun hc => ?_) (fun hc => ?_)
  · have hF := zi_f hF hc
    refine lv_iload_n hx hb dX8_told_12 rfl (lv_at hl 1 rfl) ?_
    refine z_iconst hx hb dX8_told_13 ?_
    obtain ⟨h4, hF⟩ := zg_e hF
    refine z_icmp_ge (tgt := 30) hx hb h4 (by decide) dX8_told_14 (by decide) (fun hc => ?_) (fun hc => ?_)
    · have hF := zi_t hF hc
      refine lv_iload_n hx hb dX8_told_30 rfl (lv_at hl 1 rfl) ?_
      refine z_bipush (v := 8) hx hb dX8_told_31 (by decide +kernel) ?_
      refine z_icmp_ge (tgt := 51) hx hb h4 (by decide) dX8_told_33 (by decide) (fun hc => ?_) (fun hc => ?_)
      · have hF := zi_t hF hc
        refine lv_aload_n hx hb dX8_told_51 rfl (lv_at hl 0 rfl) ?_
        refine z_getr hX hH 0 0 1 rfl rfl flX8_told_11 dX8_told_52 ?_
        refine z_sipush (v := 3209) hx hb dX8_told_55 (by decide +kernel) ?_
        refine lv_iload_n hx hb dX8_told_58 rfl (lv_at hl 1 rfl) ?_
        refine z_iadd hx hb dX8_told_59 ?_
        refine z_bipush (v := 8) hx hb dX8_told_60 (by decide +kernel) ?_
        refine z_isub hx hb dX8_told_62 ?_
        obtain ⟨h5, hF⟩ := zg_e hF
        refine z_iald hX hH 1 3253 rfl h5 (by decide) dX8_told_63 ?_
        exact z_iret hX hr hlocks hH hF rfl dX8_told_64
      · have hF := zi_f hF hc
        refine lv_aload_n hx hb dX8_told_36 rfl (lv_at hl 0 rfl) ?_
        refine z_getr hX hH 0 0 1 rfl rfl flX8_told_11 dX8_told_37 ?_
        refine z_sipush (v := 3204) hx hb dX8_told_40 (by decide +kernel) ?_
        refine lv_iload_n hx hb dX8_told_43 rfl (lv_at hl 1 rfl) ?_
        refine z_iadd hx hb dX8_told_44 ?_
        refine z_iconst hx hb dX8_told_45 ?_
        refine z_isub hx hb dX8_told_46 ?_
        obtain ⟨h6, hF⟩ := zg_e hF
        refine z_iald hX hH 1 3253 rfl h6 (by decide) dX8_told_47 ?_
        refine lv_goto (tgt := 64) hx hb dX8_told_48 (by decide) ?_
        exact z_iret hX hr hlocks hH hF rfl dX8_told_64
    · have hF := zi_f hF hc
      refine lv_aload_n hx hb dX8_told_17 rfl (lv_at hl 0 rfl) ?_
      refine z_getr hX hH 0 0 1 rfl rfl flX8_told_11 dX8_told_18 ?_
      refine z_sipush (v := 3200) hx hb dX8_told_21 (by decide +kernel) ?_
      refine lv_iload_n hx hb dX8_told_24 rfl (lv_at hl 1 rfl) ?_
      refine z_iadd hx hb dX8_told_25 ?_
      obtain ⟨h7, hF⟩ := zg_e hF
      refine z_iald hX hH 1 3253 rfl h7 (by decide) dX8_told_26 ?_
      refine lv_goto (tgt := 64) hx hb dX8_told_27 (by decide) ?_
      exact z_iret hX hr hlocks hH hF rfl dX8_told_64
  · have hF := zi_t hF hc
    refine z_iconst hx hb dX8_told_10 ?_
    exact z_iret hX hr hlocks hH hF rfl dX8_told_11
theorem flX8_put_11 : zF RX8 wsX8_put 11 8 0 := ⟨_, TX8, _, rfl, by decide +kernel, by decide +kernel, by decide, rfl⟩
set_option maxHeartbeats 4000000 in
set_option maxRecDepth 100000 in
theorem ctX8_put (l : Launch) (D : va_G) (cs : Nat → ClassId) (α : Nat → Nat) (N : Nat) (M : zM) (a1 : Int) (a2 : Int) (a3 : Int) (a4 : Int) (a5 : Int) (r : Int) (M' : zM) (hF : fX8_put N a1 a2 a3 a4 a5 M = some (r, M')) : Met l yX8_put wsX8_put ({ frames := 5, cells := 0, slots := 0, locals := 113 }) (zPre D cs LM α M [.ref (α 0), .int (nZ a1), .int (nZ a2), .int (nZ a3), .int (nZ a4), .int (nZ a5)]) (zQi D cs LM α r M') 0 0 (zA LM.length α) := by
  refine z_met (cc := cX8_put) (maxL := 6) (ret := (some .int)) (by decide +kernel) rfl RX8 rfl (Nat.le_of_ble_eq_true rfl) ?_
  intro p e s m below meth c ls hX hr hlocks hH hl
  have hx := hX.1.1
  have hb := hX.1.2.1
  have hts := hX.1.2.2.2.2
  have hl : lv_has ls 6 [(0, .ref (α 0)), (1, .int (nZ a1)), (2, .int (nZ a2)), (3, .int (nZ a3)), (4, .int (nZ a4)), (5, .int (nZ a5))] := hl
  unfold fX8_put at hF
  refine lv_iload_n hx hb dX8_put_0 rfl (lv_at hl 1 rfl) ?_
  refine lv_iload_n hx hb dX8_put_1 rfl (lv_at hl 2 rfl) ?_
  obtain ⟨r1, c2, hF⟩ := zc_e hF
  refine z_callSi (As := [.int (nZ a1), .int (nZ a2)]) (is := []) (Ll := []) hX hH rfl (ctX8_isKey l D cs (zsb [] α) N (zpk [] M) a1 a2 r1 c2) (va_cwS 2 hts gX8_put_X8_isKey rfl rfl rfl (by decide +kernel) ⟨Nat.le_of_ble_eq_true rfl, Nat.le_of_ble_eq_true rfl⟩) rfl hl.1 (Nat.le_of_ble_eq_true rfl) rfl dX8_put_2 ⟨Nat.zero_le _, Nat.zero_le _⟩ (fun H locs hH => ?_)
  have hH : zH D cs LM α M (zA LM.length α) s H locs := hH
  obtain ⟨h3, hF⟩ := zg_e hF
  refine z_if_ne (tgt := 10) hx hb h3 dX8_put_5 (by decide) (fun hc => ?_) (fun hc => ?_)
  · have hF := zi_f hF hc
    refine lv_iload hx hb dX8_put_10 (lv_at hl 4 rfl) ?_
    refine z_iconst hx hb dX8_put_12 ?_
    refine z_bipush (v := 9) hx hb dX8_put_13 (by decide +kernel) ?_
    obtain ⟨r4, c5, hF⟩ := zc_e hF
    refine z_callSi (As := [.int (nZ a4), .int (nZ (1:Int)), .int (nZ (9:Int))]) (is := []) (Ll := []) hX hH rfl (ctX8_in l D cs (zsb [] α) N (zpk [] M) a4 (1:Int) (9:Int) r4 c5) (va_cwS 3 hts gX8_put_X8_in rfl rfl rfl (by decide +kernel) ⟨Nat.le_of_ble_eq_true rfl, Nat.le_of_ble_eq_true rfl⟩) rfl hl.1 (Nat.le_of_ble_eq_true rfl) rfl dX8_put_15 ⟨Nat.zero_le _, Nat.zero_le _⟩ (fun H locs hH => ?_)
    have hH : zH D cs LM α M (zA LM.length α) s H locs := hH
    obtain ⟨h6, hF⟩ := zg_e hF
    refine z_if_eq (tgt := 32) hx hb h6 dX8_put_18 (by decide) (fun hc => ?_) (fun hc => ?_)
    · have hF := zi_t hF hc
      refine z_bipush (v := -2) hx hb dX8_put_32 (by decide +kernel) ?_
      exact z_iret hX hr hlocks hH hF rfl dX8_put_34
    · have hF := zi_f hF hc
      refine lv_iload hx hb dX8_put_21 (lv_at hl 5 rfl) ?_
      refine z_iconst hx hb dX8_put_23 ?_
      refine z_bipush (v := 99) hx hb dX8_put_24 (by decide +kernel) ?_
      obtain ⟨r7, c8, hF⟩ := zc_e hF
      refine z_callSi (As := [.int (nZ a5), .int (nZ (0:Int)), .int (nZ (99:Int))]) (is := []) (Ll := []) hX hH rfl (ctX8_in l D cs (zsb [] α) N (zpk [] M) a5 (0:Int) (99:Int) r7 c8) (va_cwS 3 hts gX8_put_X8_in rfl rfl rfl (by decide +kernel) ⟨Nat.le_of_ble_eq_true rfl, Nat.le_of_ble_eq_true rfl⟩) rfl hl.1 (Nat.le_of_ble_eq_true rfl) rfl dX8_put_26 ⟨Nat.zero_le _, Nat.zero_le _⟩ (fun H locs hH => ?_)
      have hH : zH D cs LM α M (zA LM.length α) s H locs := hH
      obtain ⟨h9, hF⟩ := zg_e hF
      refine z_if_ne (tgt := 35) hx hb h9 dX8_put_29 (by decide) (fun hc => ?_) (fun hc => ?_)
      · have hF := zi_f hF hc
        refine lv_iload hx hb dX8_put_35 (lv_at hl 4 rfl) ?_
        refine lv_aload_n hx hb dX8_put_37 rfl (lv_at hl 0 rfl) ?_
        refine z_getr hX hH 0 0 1 rfl rfl flX8_put_11 dX8_put_38 ?_
        refine z_sipush (v := 3200) hx hb dX8_put_41 (by decide +kernel) ?_
        refine z_iald hX hH 1 3253 rfl (by decide) (by decide) dX8_put_44 ?_
        obtain ⟨h10, hF⟩ := zg_e hF
        obtain ⟨h11, hF⟩ := zg_e hF
        refine z_icmp_le (tgt := 53) hx hb h10 h11 dX8_put_45 (by decide) (fun hc => ?_) (fun hc => ?_)
        · have hF := zi_t hF hc
          refine lv_aload_n hx hb dX8_put_53 rfl (lv_at hl 0 rfl) ?_
          refine z_bipush (v := 100) hx hb dX8_put_54 (by decide +kernel) ?_
          refine lv_iload_n hx hb dX8_put_56 rfl (lv_at hl 1 rfl) ?_
          refine z_imul hx hb dX8_put_57 ?_
          refine lv_iload_n hx hb dX8_put_58 rfl (lv_at hl 2 rfl) ?_
          refine z_iadd hx hb dX8_put_59 ?_
          refine lv_iload_n hx hb dX8_put_60 rfl (lv_at hl 3 rfl) ?_
          refine lv_iload hx hb dX8_put_61 (lv_at hl 4 rfl) ?_
          refine lv_iload hx hb dX8_put_63 (lv_at hl 5 rfl) ?_
          obtain ⟨r14, M13, c12, hF⟩ := zc2_e hF
          refine z_sameVi (As := [.int (nZ (((100:Int) * a1) + a2)), .int (nZ a3), .int (nZ a4), .int (nZ a5)]) hX hH 0 8 (ctX8_putIn l D cs α N M (((100:Int) * a1) + a2) a3 a4 a5 r14 M13 c12) (cwV 4 hts gX8_put_X8_putIn rfl rfl rfl (by decide +kernel) ⟨Nat.le_of_ble_eq_true rfl, Nat.le_of_ble_eq_true rfl⟩) rfl rfl rfl hl.1 (Nat.le_of_ble_eq_true rfl) rfl dX8_put_65 ⟨Nat.zero_le _, Nat.zero_le _⟩ (fun H locs hH => ?_)
          exact z_iret hX hr hlocks hH hF rfl dX8_put_68
        · have hF := zi_f hF hc
          refine z_bipush (v := -4) hx hb dX8_put_48 (by decide +kernel) ?_
          refine lv_goto (tgt := 68) hx hb dX8_put_50 (by decide) ?_
          exact z_iret hX hr hlocks hH hF rfl dX8_put_68
      · have hF := zi_t hF hc
        refine z_bipush (v := -2) hx hb dX8_put_32 (by decide +kernel) ?_
        exact z_iret hX hr hlocks hH hF rfl dX8_put_34
  · have hF := zi_t hF hc
    refine z_iconst hx hb dX8_put_8 ?_
    exact z_iret hX hr hlocks hH hF rfl dX8_put_9
theorem flX8_get_11 : zF RX8 wsX8_get 11 8 0 := ⟨_, TX8, _, rfl, by decide +kernel, by decide +kernel, by decide, rfl⟩
set_option maxHeartbeats 4000000 in
set_option maxRecDepth 100000 in
theorem ctX8_get (l : Launch) (D : va_G) (cs : Nat → ClassId) (α : Nat → Nat) (N : Nat) (M : zM) (a1 : Int) (a2 : Int) (r : Int) (M' : zM) (hF : fX8_get N a1 a2 M = some (r, M')) : Met l yX8_get wsX8_get ({ frames := 5, cells := 0, slots := 0, locals := 109 }) (zPre D cs LM α M [.ref (α 0), .int (nZ a1), .int (nZ a2)]) (zQl D cs LM α r M') 0 0 (zA LM.length α) := by
  refine z_met (cc := cX8_get) (maxL := 5) (ret := (some .long)) (by decide +kernel) rfl RX8 rfl (Nat.le_of_ble_eq_true rfl) ?_
  intro p e s m below meth c ls hX hr hlocks hH hl
  have hx := hX.1.1
  have hb := hX.1.2.1
  have hts := hX.1.2.2.2.2
  have hl : lv_has ls 5 [(0, .ref (α 0)), (1, .int (nZ a1)), (2, .int (nZ a2))] := hl
  unfold fX8_get at hF
  refine lv_iload_n hx hb dX8_get_0 rfl (lv_at hl 1 rfl) ?_
  refine lv_iload_n hx hb dX8_get_1 rfl (lv_at hl 2 rfl) ?_
  obtain ⟨r1, c2, hF⟩ := zc_e hF
  refine z_callSi (As := [.int (nZ a1), .int (nZ a2)]) (is := []) (Ll := []) hX hH rfl (ctX8_isKey l D cs (zsb [] α) N (zpk [] M) a1 a2 r1 c2) (va_cwS 2 hts gX8_get_X8_isKey rfl rfl rfl (by decide +kernel) ⟨Nat.le_of_ble_eq_true rfl, Nat.le_of_ble_eq_true rfl⟩) rfl hl.1 (Nat.le_of_ble_eq_true rfl) rfl dX8_get_2 ⟨Nat.zero_le _, Nat.zero_le _⟩ (fun H locs hH => ?_)
  have hH : zH D cs LM α M (zA LM.length α) s H locs := hH
  obtain ⟨h3, hF⟩ := zg_e hF
  refine z_if_ne (tgt := 12) hx hb h3 dX8_get_5 (by decide) (fun hc => ?_) (fun hc => ?_)
  · have hF := zi_f hF hc
    refine z_bipush (v := 100) hx hb dX8_get_12 (by decide +kernel) ?_
    refine lv_iload_n hx hb dX8_get_14 rfl (lv_at hl 1 rfl) ?_
    refine z_imul hx hb dX8_get_15 ?_
    refine lv_iload_n hx hb dX8_get_16 rfl (lv_at hl 2 rfl) ?_
    refine z_iadd hx hb dX8_get_17 ?_
    obtain ⟨v4, ev4, hF⟩ := zl_e hF
    refine z_istore_n ev4 (lv' := [(3, .int (nZ v4)), (0, .ref (α 0)), (1, .int (nZ a1)), (2, .int (nZ a2))]) hx hb dX8_get_18 rfl hl (by decide) rfl (fun ls hl => ?_)
    refine lv_aload_n hx hb dX8_get_19 rfl (lv_at hl 1 rfl) ?_
    refine z_getr hX hH 0 0 1 rfl rfl flX8_get_11 dX8_get_20 ?_
    refine z_sipush (v := 400) hx hb dX8_get_23 (by decide +kernel) ?_
    refine lv_iload_n hx hb dX8_get_26 rfl (lv_at hl 0 rfl) ?_
    refine z_iadd hx hb dX8_get_27 ?_
    obtain ⟨h5, hF⟩ := zg_e hF
    refine z_iald hX hH 1 3253 rfl h5 (by decide) dX8_get_28 ?_
    obtain ⟨v6, ev6, hF⟩ := zl_e hF
    refine z_istore ev6 (lv' := [(4, .int (nZ v6)), (3, .int (nZ v4)), (0, .ref (α 0)), (1, .int (nZ a1)), (2, .int (nZ a2))]) hx hb dX8_get_29 hl (by decide) rfl (fun ls hl => ?_)
    refine lv_aload_n hx hb dX8_get_31 rfl (lv_at hl 2 rfl) ?_
    refine lv_iload_n hx hb dX8_get_32 rfl (lv_at hl 1 rfl) ?_
    obtain ⟨r9, M8, c7, hF⟩ := zc2_e hF
    refine z_sameVi (As := [.int (nZ v4)]) hX hH 0 8 (ctX8_gets l D cs α N M v4 r9 M8 c7) (cwV 1 hts gX8_get_X8_gets rfl rfl rfl (by decide +kernel) ⟨Nat.le_of_ble_eq_true rfl, Nat.le_of_ble_eq_true rfl⟩) rfl rfl rfl hl.1 (Nat.le_of_ble_eq_true rfl) rfl dX8_get_33 ⟨Nat.zero_le _, Nat.zero_le _⟩ (fun H locs hH => ?_)
    obtain ⟨h10, hF⟩ := zg_e hF
    refine z_if_eq (tgt := 45) hx hb h10 dX8_get_36 (by decide) (fun hc => ?_) (fun hc => ?_)
    · have hF := zi_t hF hc
      refine z_ldc2 (v := (-9223372036854775808:Int)) (n := -9223372036854775808) hx hb hX.1.2.2.2.1 (hts (.constantLong RX8 104 (-9223372036854775808)) (by decide +kernel)) (by decide +kernel) dX8_get_45 ?_
      exact z_lret hX hr hlocks hH hF dX8_get_48
    · have hF := zi_f hF hc
      refine lv_iload hx hb dX8_get_39 (lv_at hl 0 rfl) ?_
      obtain ⟨h11, hF⟩ := zg_e hF
      refine z_i2l hx hb h11 dX8_get_41 ?_
      refine lv_goto (tgt := 48) hx hb dX8_get_42 (by decide) ?_
      exact z_lret hX hr hlocks hH hF dX8_get_48
  · have hF := zi_t hF hc
    refine z_ldc2 (v := (-9223372036854775808:Int)) (n := -9223372036854775808) hx hb hX.1.2.2.2.1 (hts (.constantLong RX8 104 (-9223372036854775808)) (by decide +kernel)) (by decide +kernel) dX8_get_8 ?_
    exact z_lret hX hr hlocks hH hF dX8_get_11
set_option maxHeartbeats 4000000 in
set_option maxRecDepth 100000 in
theorem ctX8_drop (l : Launch) (D : va_G) (cs : Nat → ClassId) (α : Nat → Nat) (N : Nat) (M : zM) (a1 : Int) (a2 : Int) (r : Int) (M' : zM) (hF : fX8_drop N a1 a2 M = some (r, M')) : Met l yX8_drop wsX8_drop ({ frames := 2, cells := 0, slots := 0, locals := 44 }) (zPre D cs LM α M [.ref (α 0), .int (nZ a1), .int (nZ a2)]) (zQi D cs LM α r M') 0 0 (zA LM.length α) := by
  refine z_met (cc := cX8_drop) (maxL := 3) (ret := (some .int)) (by decide +kernel) rfl RX8 rfl (Nat.le_of_ble_eq_true rfl) ?_
  intro p e s m below meth c ls hX hr hlocks hH hl
  have hx := hX.1.1
  have hb := hX.1.2.1
  have hts := hX.1.2.2.2.2
  have hl : lv_has ls 3 [(0, .ref (α 0)), (1, .int (nZ a1)), (2, .int (nZ a2))] := hl
  unfold fX8_drop at hF
  refine lv_iload_n hx hb dX8_drop_0 rfl (lv_at hl 1 rfl) ?_
  refine lv_iload_n hx hb dX8_drop_1 rfl (lv_at hl 2 rfl) ?_
  obtain ⟨r1, c2, hF⟩ := zc_e hF
  refine z_callSi (As := [.int (nZ a1), .int (nZ a2)]) (is := []) (Ll := []) hX hH rfl (ctX8_isKey l D cs (zsb [] α) N (zpk [] M) a1 a2 r1 c2) (va_cwS 2 hts gX8_drop_X8_isKey rfl rfl rfl (by decide +kernel) ⟨Nat.le_of_ble_eq_true rfl, Nat.le_of_ble_eq_true rfl⟩) rfl hl.1 (Nat.le_of_ble_eq_true rfl) rfl dX8_drop_2 ⟨Nat.zero_le _, Nat.zero_le _⟩ (fun H locs hH => ?_)
  have hH : zH D cs LM α M (zA LM.length α) s H locs := hH
  obtain ⟨h3, hF⟩ := zg_e hF
  refine z_if_eq (tgt := 21) hx hb h3 dX8_drop_5 (by decide) (fun hc => ?_) (fun hc => ?_)
  · have hF := zi_t hF hc
    refine z_iconst hx hb dX8_drop_21 ?_
    exact z_iret hX hr hlocks hH hF rfl dX8_drop_22
  · have hF := zi_f hF hc
    refine lv_aload_n hx hb dX8_drop_8 rfl (lv_at hl 0 rfl) ?_
    refine z_bipush (v := 100) hx hb dX8_drop_9 (by decide +kernel) ?_
    refine lv_iload_n hx hb dX8_drop_11 rfl (lv_at hl 1 rfl) ?_
    refine z_imul hx hb dX8_drop_12 ?_
    refine lv_iload_n hx hb dX8_drop_13 rfl (lv_at hl 2 rfl) ?_
    refine z_iadd hx hb dX8_drop_14 ?_
    obtain ⟨r6, M5, c4, hF⟩ := zc2_e hF
    refine z_sameVi (As := [.int (nZ (((100:Int) * a1) + a2))]) hX hH 0 8 (ctX8_drops l D cs α N M (((100:Int) * a1) + a2) r6 M5 c4) (cwV 1 hts gX8_drop_X8_drops rfl rfl rfl (by decide +kernel) ⟨Nat.le_of_ble_eq_true rfl, Nat.le_of_ble_eq_true rfl⟩) rfl rfl rfl hl.1 (Nat.le_of_ble_eq_true rfl) rfl dX8_drop_15 ⟨Nat.zero_le _, Nat.zero_le _⟩ (fun H locs hH => ?_)
    refine lv_goto (tgt := 22) hx hb dX8_drop_18 (by decide) ?_
    exact z_iret hX hr hlocks hH hF rfl dX8_drop_22
theorem flX8_pin_11 : zF RX8 wsX8_pin 11 8 0 := ⟨_, TX8, _, rfl, by decide +kernel, by decide +kernel, by decide, rfl⟩
set_option maxHeartbeats 4000000 in
set_option maxRecDepth 100000 in
theorem ctX8_pin (l : Launch) (D : va_G) (cs : Nat → ClassId) (α : Nat → Nat) (N : Nat) (M : zM) (a1 : Int) (a2 : Int) (a3 : Int) (r : Int) (M' : zM) (hF : fX8_pin N a1 a2 a3 M = some (r, M')) : Met l yX8_pin wsX8_pin ({ frames := 2, cells := 0, slots := 0, locals := 43 }) (zPre D cs LM α M [.ref (α 0), .int (nZ a1), .int (nZ a2), .int (nZ a3)]) (zQi D cs LM α r M') 0 0 (zA LM.length α) := by
  refine z_met (cc := cX8_pin) (maxL := 6) (ret := (some .int)) (by decide +kernel) rfl RX8 rfl (Nat.le_of_ble_eq_true rfl) ?_
  intro p e s m below meth c ls hX hr hlocks hH hl
  have hx := hX.1.1
  have hb := hX.1.2.1
  have hts := hX.1.2.2.2.2
  have J62 : ∀ (x5 : Int) (y0 : Int) (y1 : Int) (M0 : zM), sX8_pin_62 N x5 y0 y1 M0 = some (r, M') → zGo p l e (headSpec wsX8_pin ({ frames := 2, cells := 0, slots := 0, locals := 43 })).room s m ([.ref (α 0), .int (nZ a1), .int (nZ a2), .int (nZ a3)] : List Value).toArray below meth c (MQ below (zQi D cs LM α r M') ([.ref (α 0), .int (nZ a1), .int (nZ a2), .int (nZ a3)] : List Value).toArray s 0 0 (zA LM.length α)) D cs LM α (zA LM.length α) 6 62 [(5, .int (nZ x5))] [.int (nZ y0), .int (nZ y1), .ref (α 1)] M0 := by
    intro x5 y0 y1 M0 hF H locs ls hH hl
    unfold sX8_pin_62 at hF
    obtain ⟨h12, hF⟩ := zg_e hF
    obtain ⟨M13, eM13, hF⟩ := zl_e hF
    refine z_iast hX hH 1 3253 eM13 rfl h12 (by decide) dX8_pin_62 (fun H locs hH => ?_)
    refine lv_iload hx hb dX8_pin_63 (lv_at hl 0 rfl) ?_
    exact z_iret hX hr hlocks hH hF rfl dX8_pin_65
  have hl : lv_has ls 6 [(0, .ref (α 0)), (1, .int (nZ a1)), (2, .int (nZ a2)), (3, .int (nZ a3))] := hl
  unfold fX8_pin at hF
  refine lv_iload_n hx hb dX8_pin_0 rfl (lv_at hl 1 rfl) ?_
  refine lv_iload_n hx hb dX8_pin_1 rfl (lv_at hl 2 rfl) ?_
  obtain ⟨r1, c2, hF⟩ := zc_e hF
  refine z_callSi (As := [.int (nZ a1), .int (nZ a2)]) (is := []) (Ll := []) hX hH rfl (ctX8_isKey l D cs (zsb [] α) N (zpk [] M) a1 a2 r1 c2) (va_cwS 2 hts gX8_pin_X8_isKey rfl rfl rfl (by decide +kernel) ⟨Nat.le_of_ble_eq_true rfl, Nat.le_of_ble_eq_true rfl⟩) rfl hl.1 (Nat.le_of_ble_eq_true rfl) rfl dX8_pin_2 ⟨Nat.zero_le _, Nat.zero_le _⟩ (fun H locs hH => ?_)
  have hH : zH D cs LM α M (zA LM.length α) s H locs := hH
  obtain ⟨h3, hF⟩ := zg_e hF
  refine z_if_ne (tgt := 10) hx hb h3 dX8_pin_5 (by decide) (fun hc => ?_) (fun hc => ?_)
  · have hF := zi_f hF hc
    refine z_bipush (v := 100) hx hb dX8_pin_10 (by decide +kernel) ?_
    refine lv_iload_n hx hb dX8_pin_12 rfl (lv_at hl 1 rfl) ?_
    refine z_imul hx hb dX8_pin_13 ?_
    refine lv_iload_n hx hb dX8_pin_14 rfl (lv_at hl 2 rfl) ?_
    refine z_iadd hx hb dX8_pin_15 ?_
    obtain ⟨v4, ev4, hF⟩ := zl_e hF
    refine z_istore ev4 (lv' := [(4, .int (nZ v4)), (0, .ref (α 0)), (1, .int (nZ a1)), (2, .int (nZ a2)), (3, .int (nZ a3))]) hx hb dX8_pin_16 hl (by decide) rfl (fun ls hl => ?_)
    refine lv_aload_n hx hb dX8_pin_18 rfl (lv_at hl 1 rfl) ?_
    refine lv_iload hx hb dX8_pin_19 (lv_at hl 0 rfl) ?_
    obtain ⟨r7, M6, c5, hF⟩ := zc2_e hF
    refine z_sameVi (As := [.int (nZ v4)]) hX hH 0 8 (ctX8_isThing l D cs α N M v4 r7 M6 c5) (cwV 1 hts gX8_pin_X8_isThing rfl rfl rfl (by decide +kernel) ⟨Nat.le_of_ble_eq_true rfl, Nat.le_of_ble_eq_true rfl⟩) rfl rfl rfl hl.1 (Nat.le_of_ble_eq_true rfl) rfl dX8_pin_21 ⟨Nat.zero_le _, Nat.zero_le _⟩ (fun H locs hH => ?_)
    obtain ⟨h8, hF⟩ := zg_e hF
    refine z_if_ne (tgt := 30) hx hb h8 dX8_pin_24 (by decide) (fun hc => ?_) (fun hc => ?_)
    · have hF := zi_f hF hc
      refine lv_aload_n hx hb dX8_pin_30 rfl (lv_at hl 1 rfl) ?_
      refine z_getr hX hH 0 0 1 rfl rfl flX8_pin_11 dX8_pin_31 ?_
      refine z_sipush (v := 2400) hx hb dX8_pin_34 (by decide +kernel) ?_
      refine lv_iload hx hb dX8_pin_37 (lv_at hl 0 rfl) ?_
      refine z_iadd hx hb dX8_pin_39 ?_
      obtain ⟨h9, hF⟩ := zg_e hF
      refine z_iald hX hH 1 3253 rfl h9 (by decide) dX8_pin_40 ?_
      obtain ⟨v10, ev10, hF⟩ := zl_e hF
      refine z_istore ev10 (lv' := [(5, .int (nZ v10)), (4, .int (nZ v4)), (0, .ref (α 0)), (1, .int (nZ a1)), (2, .int (nZ a2)), (3, .int (nZ a3))]) hx hb dX8_pin_41 hl (by decide) rfl (fun ls hl => ?_)
      refine lv_aload_n hx hb dX8_pin_43 rfl (lv_at hl 2 rfl) ?_
      refine z_getr hX hH 0 0 1 rfl rfl flX8_pin_11 dX8_pin_44 ?_
      refine z_sipush (v := 2400) hx hb dX8_pin_47 (by decide +kernel) ?_
      refine lv_iload hx hb dX8_pin_50 (lv_at hl 1 rfl) ?_
      refine z_iadd hx hb dX8_pin_52 ?_
      refine lv_iload_n hx hb dX8_pin_53 rfl (lv_at hl 5 rfl) ?_
      obtain ⟨h11, hF⟩ := zg_e hF
      refine z_if_eq (tgt := 61) hx hb h11 dX8_pin_54 (by decide) (fun hc => ?_) (fun hc => ?_)
      · have hF := zi_t hF hc
        refine z_iconst hx hb dX8_pin_61 ?_
        exact J62 v10 (0:Int) ((2400:Int) + v4) M6 hF _ _ _ hH (lv_sub hl [0] rfl)
      · have hF := zi_f hF hc
        refine z_iconst hx hb dX8_pin_57 ?_
        refine lv_goto (tgt := 62) hx hb dX8_pin_58 (by decide) ?_
        exact J62 v10 (1:Int) ((2400:Int) + v4) M6 hF _ _ _ hH (lv_sub hl [0] rfl)
    · have hF := zi_t hF hc
      refine z_bipush (v := -3) hx hb dX8_pin_27 (by decide +kernel) ?_
      exact z_iret hX hr hlocks hH hF rfl dX8_pin_29
  · have hF := zi_t hF hc
    refine z_iconst hx hb dX8_pin_8 ?_
    exact z_iret hX hr hlocks hH hF rfl dX8_pin_9
theorem flX8_placeOf_11 : zF RX8 wsX8_placeOf 11 8 0 := ⟨_, TX8, _, rfl, by decide +kernel, by decide +kernel, by decide, rfl⟩
set_option maxHeartbeats 4000000 in
set_option maxRecDepth 100000 in
theorem ctX8_placeOf (l : Launch) (D : va_G) (cs : Nat → ClassId) (α : Nat → Nat) (N : Nat) (M : zM) (a1 : Int) (r : Int) (M' : zM) (hF : fX8_placeOf N a1 M = some (r, M')) : Met l yX8_placeOf wsX8_placeOf ({ frames := 0, cells := 0, slots := 0, locals := 0 }) (zPre D cs LM α M [.ref (α 0), .int (nZ a1)]) (zQi D cs LM α r M') 0 0 (zA LM.length α) := by
  refine z_met (cc := cX8_placeOf) (maxL := 4) (ret := (some .int)) (by decide +kernel) rfl RX8 rfl (Nat.le_of_ble_eq_true rfl) ?_
  intro p e s m below meth c ls hX hr hlocks hH hl
  have hx := hX.1.1
  have hb := hX.1.2.1
  have hts := hX.1.2.2.2.2
  have J59 : ∀ (k4 : Int → Int → Int → zM → Option (Int × zM)) (hk4 : ∀ (x1 : Int) (x2 : Int) (x3 : Int) (M0 : zM), k4 x1 x2 x3 M0 = some (r, M') → zGo p l e (headSpec wsX8_placeOf ({ frames := 0, cells := 0, slots := 0, locals := 0 })).room s m ([.ref (α 0), .int (nZ a1)] : List Value).toArray below meth c (MQ below (zQi D cs LM α r M') ([.ref (α 0), .int (nZ a1)] : List Value).toArray s 0 0 (zA LM.length α)) D cs LM α (zA LM.length α) 4 4 [(0, .ref (α 0)), (1, .int (nZ x1)), (2, .int (nZ x2)), (3, .int (nZ x3))] [] M0) (x1 : Int) (x3 : Int) (y0 : Int) (y1 : Int) (M0 : zM), sX8_placeOf_59 N k4 x1 x3 y0 y1 M0 = some (r, M') → zGo p l e (headSpec wsX8_placeOf ({ frames := 0, cells := 0, slots := 0, locals := 0 })).room s m ([.ref (α 0), .int (nZ a1)] : List Value).toArray below meth c (MQ below (zQi D cs LM α r M') ([.ref (α 0), .int (nZ a1)] : List Value).toArray s 0 0 (zA LM.length α)) D cs LM α (zA LM.length α) 4 59 [(0, .ref (α 0)), (1, .int (nZ x1)), (3, .int (nZ x3))] [.int (nZ y0), .int (nZ y1)] M0 := by
    intro k4 hk4 x1 x3 y0 y1 M0 hF H locs ls hH hl
    unfold sX8_placeOf_59 at hF
    refine z_iadd hx hb dX8_placeOf_59 ?_
    obtain ⟨v8, ev8, hF⟩ := zl_e hF
    refine z_istore_n ev8 (lv' := [(2, .int (nZ v8)), (0, .ref (α 0)), (1, .int (nZ x1)), (3, .int (nZ x3))]) hx hb dX8_placeOf_60 rfl hl (by decide) rfl (fun ls hl => ?_)
    obtain ⟨v9, ev9, hF⟩ := zl_e hF
    refine z_iinc ev9 (lv' := [(3, .int (nZ v9)), (2, .int (nZ v8)), (0, .ref (α 0)), (1, .int (nZ x1))]) hx hb dX8_placeOf_61 hl (k := 3) rfl (by decide) rfl (fun ls hl => ?_)
    refine lv_goto (tgt := 4) hx hb dX8_placeOf_64 (by decide) ?_
    exact hk4 x1 v8 v9 M0 hF _ _ _ hH (lv_sub hl [2, 3, 1, 0] rfl)
  have J58 : ∀ (k4 : Int → Int → Int → zM → Option (Int × zM)) (hk4 : ∀ (x1 : Int) (x2 : Int) (x3 : Int) (M0 : zM), k4 x1 x2 x3 M0 = some (r, M') → zGo p l e (headSpec wsX8_placeOf ({ frames := 0, cells := 0, slots := 0, locals := 0 })).room s m ([.ref (α 0), .int (nZ a1)] : List Value).toArray below meth c (MQ below (zQi D cs LM α r M') ([.ref (α 0), .int (nZ a1)] : List Value).toArray s 0 0 (zA LM.length α)) D cs LM α (zA LM.length α) 4 4 [(0, .ref (α 0)), (1, .int (nZ x1)), (2, .int (nZ x2)), (3, .int (nZ x3))] [] M0) (x1 : Int) (x3 : Int) (y0 : Int) (M0 : zM), sX8_placeOf_58 N k4 x1 x3 y0 M0 = some (r, M') → zGo p l e (headSpec wsX8_placeOf ({ frames := 0, cells := 0, slots := 0, locals := 0 })).room s m ([.ref (α 0), .int (nZ a1)] : List Value).toArray below meth c (MQ below (zQi D cs LM α r M') ([.ref (α 0), .int (nZ a1)] : List Value).toArray s 0 0 (zA LM.length α)) D cs LM α (zA LM.length α) 4 58 [(0, .ref (α 0)), (1, .int (nZ x1)), (3, .int (nZ x3))] [.int (nZ y0)] M0 := by
    intro k4 hk4 x1 x3 y0 M0 hF H locs ls hH hl
    unfold sX8_placeOf_58 at hF
    refine z_iconst hx hb dX8_placeOf_58 ?_
    exact J59 k4 hk4 x1 x3 (0:Int) y0 M0 hF _ _ _ hH (lv_sub hl [0, 1, 2] rfl)
  have L4 : ∀ (n : Nat) (x1 : Int) (x2 : Int) (x3 : Int) (M0 : zM), fX8_placeOf_4 N n x1 x2 x3 M0 = some (r, M') → zGo p l e (headSpec wsX8_placeOf ({ frames := 0, cells := 0, slots := 0, locals := 0 })).room s m ([.ref (α 0), .int (nZ a1)] : List Value).toArray below meth c (MQ below (zQi D cs LM α r M') ([.ref (α 0), .int (nZ a1)] : List Value).toArray s 0 0 (zA LM.length α)) D cs LM α (zA LM.length α) 4 4 [(0, .ref (α 0)), (1, .int (nZ x1)), (2, .int (nZ x2)), (3, .int (nZ x3))] [] M0 := by
    intro  n
    induction n with
    | zero =>
      intro x1 x2 x3 M0 hF
      have hF : (none : Option (Int × zM)) = some (r, M') := hF
      cases hF
    | succ n hk4 =>
      intro x1 x2 x3 M0 hF H locs ls hH hl
      have hF : sX8_placeOf_4 N (fun x1 x2 x3 M0 => fX8_placeOf_4 N n x1 x2 x3 M0) x1 x2 x3 M0 = some (r, M') := hF
      unfold sX8_placeOf_4 at hF
      refine lv_iload_n hx hb dX8_placeOf_4 rfl (lv_at hl 3 rfl) ?_
      refine z_sipush (v := 400) hx hb dX8_placeOf_5 (by decide +kernel) ?_
      obtain ⟨h3, hF⟩ := zg_e hF
      refine z_icmp_ge (tgt := 67) hx hb h3 (by decide) dX8_placeOf_8 (by decide) (fun hc => ?_) (fun hc => ?_)
      · have hF := zi_t hF hc
        refine lv_iload_n hx hb dX8_placeOf_67 rfl (lv_at hl 2 rfl) ?_
        exact z_iret hX hr hlocks hH hF rfl dX8_placeOf_68
      · have hF := zi_f hF hc
        refine lv_iload_n hx hb dX8_placeOf_11 rfl (lv_at hl 2 rfl) ?_
        refine lv_aload_n hx hb dX8_placeOf_12 rfl (lv_at hl 0 rfl) ?_
        refine z_getr hX hH 0 0 1 rfl rfl flX8_placeOf_11 dX8_placeOf_13 ?_
        refine z_iconst hx hb dX8_placeOf_16 ?_
        refine lv_iload_n hx hb dX8_placeOf_17 rfl (lv_at hl 3 rfl) ?_
        refine z_iadd hx hb dX8_placeOf_18 ?_
        obtain ⟨h4, hF⟩ := zg_e hF
        refine z_iald hX hH 1 3253 rfl h4 (by decide) dX8_placeOf_19 ?_
        refine lv_aload_n hx hb dX8_placeOf_20 rfl (lv_at hl 0 rfl) ?_
        refine z_getr hX hH 0 0 1 rfl rfl flX8_placeOf_11 dX8_placeOf_21 ?_
        refine z_iconst hx hb dX8_placeOf_24 ?_
        refine lv_iload_n hx hb dX8_placeOf_25 rfl (lv_at hl 1 rfl) ?_
        refine z_iadd hx hb dX8_placeOf_26 ?_
        obtain ⟨h5, hF⟩ := zg_e hF
        refine z_iald hX hH 1 3253 rfl h5 (by decide) dX8_placeOf_27 ?_
        obtain ⟨h6, hF⟩ := zg_e hF
        obtain ⟨h7, hF⟩ := zg_e hF
        refine z_icmp_ne (tgt := 58) hx hb h6 h7 dX8_placeOf_28 (by decide) (fun hc => ?_) (fun hc => ?_)
        · have hF := zi_f hF hc
          exact J58 (fun x1 x2 x3 M0 => fX8_placeOf_4 N n x1 x2 x3 M0) hk4 x1 x3 x2 M0 hF _ _ _ hH (lv_sub hl [0, 1, 3] rfl)
        · have hF := zi_t hF hc
          refine lv_aload_n hx hb dX8_placeOf_31 rfl (lv_at hl 0 rfl) ?_
          refine z_getr hX hH 0 0 1 rfl rfl flX8_placeOf_11 dX8_placeOf_32 ?_
          refine z_sipush (v := 2800) hx hb dX8_placeOf_35 (by decide +kernel) ?_
          refine lv_iload_n hx hb dX8_placeOf_38 rfl (lv_at hl 3 rfl) ?_
          refine z_iadd hx hb dX8_placeOf_39 ?_
          obtain ⟨h10, hF⟩ := zg_e hF
          refine z_iald hX hH 1 3253 rfl h10 (by decide) dX8_placeOf_40 ?_
          refine lv_aload_n hx hb dX8_placeOf_41 rfl (lv_at hl 0 rfl) ?_
          refine z_getr hX hH 0 0 1 rfl rfl flX8_placeOf_11 dX8_placeOf_42 ?_
          refine z_sipush (v := 2800) hx hb dX8_placeOf_45 (by decide +kernel) ?_
          refine lv_iload_n hx hb dX8_placeOf_48 rfl (lv_at hl 1 rfl) ?_
          refine z_iadd hx hb dX8_placeOf_49 ?_
          obtain ⟨h11, hF⟩ := zg_e hF
          refine z_iald hX hH 1 3253 rfl h11 (by decide) dX8_placeOf_50 ?_
          obtain ⟨h12, hF⟩ := zg_e hF
          obtain ⟨h13, hF⟩ := zg_e hF
          refine z_icmp_ge (tgt := 58) hx hb h12 h13 dX8_placeOf_51 (by decide) (fun hc => ?_) (fun hc => ?_)
          · have hF := zi_t hF hc
            exact J58 (fun x1 x2 x3 M0 => fX8_placeOf_4 N n x1 x2 x3 M0) hk4 x1 x3 x2 M0 hF _ _ _ hH (lv_sub hl [0, 1, 3] rfl)
          · have hF := zi_f hF hc
            refine z_iconst hx hb dX8_placeOf_54 ?_
            refine lv_goto (tgt := 59) hx hb dX8_placeOf_55 (by decide) ?_
            exact J59 (fun x1 x2 x3 M0 => fX8_placeOf_4 N n x1 x2 x3 M0) hk4 x1 x3 (1:Int) x2 M0 hF _ _ _ hH (lv_sub hl [0, 1, 3] rfl)
  have hl : lv_has ls 4 [(0, .ref (α 0)), (1, .int (nZ a1))] := hl
  unfold fX8_placeOf at hF
  refine z_iconst hx hb dX8_placeOf_0 ?_
  obtain ⟨v1, ev1, hF⟩ := zl_e hF
  refine z_istore_n ev1 (lv' := [(2, .int (nZ v1)), (0, .ref (α 0)), (1, .int (nZ a1))]) hx hb dX8_placeOf_1 rfl hl (by decide) rfl (fun ls hl => ?_)
  refine z_iconst hx hb dX8_placeOf_2 ?_
  obtain ⟨v2, ev2, hF⟩ := zl_e hF
  refine z_istore_n ev2 (lv' := [(3, .int (nZ v2)), (2, .int (nZ v1)), (0, .ref (α 0)), (1, .int (nZ a1))]) hx hb dX8_placeOf_3 rfl hl (by decide) rfl (fun ls hl => ?_)
  exact L4 N a1 v1 v2 M hF _ _ _ hH (lv_sub hl [2, 3, 1, 0] rfl)
theorem flX8_of_11 : zF RX8 wsX8_of 11 8 0 := ⟨_, TX8, _, rfl, by decide +kernel, by decide +kernel, by decide, rfl⟩
set_option maxHeartbeats 4000000 in
set_option maxRecDepth 100000 in
theorem ctX8_of (l : Launch) (D : va_G) (cs : Nat → ClassId) (α : Nat → Nat) (N : Nat) (M : zM) (a1 : Int) (a2 : Int) (a3 : Int) (r : Int) (M' : zM) (hF : fX8_of N a1 a2 a3 M = some (r, M')) : Met l yX8_of wsX8_of ({ frames := 2, cells := 0, slots := 0, locals := 43 }) (zPre D cs LM α M [.ref (α 0), .int (nZ a1), .int (nZ a2), .int (nZ a3)]) (zQi D cs LM α r M') 0 0 (zA LM.length α) := by
  refine z_met (cc := cX8_of) (maxL := 6) (ret := (some .int)) (by decide +kernel) rfl RX8 rfl (Nat.le_of_ble_eq_true rfl) ?_
  intro p e s m below meth c ls hX hr hlocks hH hl
  have hx := hX.1.1
  have hb := hX.1.2.1
  have hts := hX.1.2.2.2.2
  have hl : lv_has ls 6 [(0, .ref (α 0)), (1, .int (nZ a1)), (2, .int (nZ a2)), (3, .int (nZ a3))] := hl
  unfold fX8_of at hF
  refine lv_iload_n hx hb dX8_of_0 rfl (lv_at hl 1 rfl) ?_
  refine lv_iload_n hx hb dX8_of_1 rfl (lv_at hl 2 rfl) ?_
  obtain ⟨r1, c2, hF⟩ := zc_e hF
  refine z_callSi (As := [.int (nZ a1), .int (nZ a2)]) (is := []) (Ll := []) hX hH rfl (ctX8_isKey l D cs (zsb [] α) N (zpk [] M) a1 a2 r1 c2) (va_cwS 2 hts gX8_of_X8_isKey rfl rfl rfl (by decide +kernel) ⟨Nat.le_of_ble_eq_true rfl, Nat.le_of_ble_eq_true rfl⟩) rfl hl.1 (Nat.le_of_ble_eq_true rfl) rfl dX8_of_2 ⟨Nat.zero_le _, Nat.zero_le _⟩ (fun H locs hH => ?_)
  have hH : zH D cs LM α M (zA LM.length α) s H locs := hH
  obtain ⟨h3, hF⟩ := zg_e hF
  refine z_if_eq (tgt := 18) hx hb h3 dX8_of_5 (by decide) (fun hc => ?_) (fun hc => ?_)
  · have hF := zi_t hF hc
    refine z_iconst hx hb dX8_of_18 ?_
    exact z_iret hX hr hlocks hH hF rfl dX8_of_19
  · have hF := zi_f hF hc
    refine lv_iload_n hx hb dX8_of_8 rfl (lv_at hl 3 rfl) ?_
    refine z_iconst hx hb dX8_of_9 ?_
    refine z_bipush (v := 6) hx hb dX8_of_10 (by decide +kernel) ?_
    obtain ⟨r4, c5, hF⟩ := zc_e hF
    refine z_callSi (As := [.int (nZ a3), .int (nZ (0:Int)), .int (nZ (6:Int))]) (is := []) (Ll := []) hX hH rfl (ctX8_in l D cs (zsb [] α) N (zpk [] M) a3 (0:Int) (6:Int) r4 c5) (va_cwS 3 hts gX8_of_X8_in rfl rfl rfl (by decide +kernel) ⟨Nat.le_of_ble_eq_true rfl, Nat.le_of_ble_eq_true rfl⟩) rfl hl.1 (Nat.le_of_ble_eq_true rfl) rfl dX8_of_12 ⟨Nat.zero_le _, Nat.zero_le _⟩ (fun H locs hH => ?_)
    have hH : zH D cs LM α M (zA LM.length α) s H locs := hH
    obtain ⟨h6, hF⟩ := zg_e hF
    refine z_if_ne (tgt := 20) hx hb h6 dX8_of_15 (by decide) (fun hc => ?_) (fun hc => ?_)
    · have hF := zi_f hF hc
      refine z_bipush (v := 100) hx hb dX8_of_20 (by decide +kernel) ?_
      refine lv_iload_n hx hb dX8_of_22 rfl (lv_at hl 1 rfl) ?_
      refine z_imul hx hb dX8_of_23 ?_
      refine lv_iload_n hx hb dX8_of_24 rfl (lv_at hl 2 rfl) ?_
      refine z_iadd hx hb dX8_of_25 ?_
      obtain ⟨v7, ev7, hF⟩ := zl_e hF
      refine z_istore ev7 (lv' := [(4, .int (nZ v7)), (0, .ref (α 0)), (1, .int (nZ a1)), (2, .int (nZ a2)), (3, .int (nZ a3))]) hx hb dX8_of_26 hl (by decide) rfl (fun ls hl => ?_)
      refine lv_aload_n hx hb dX8_of_28 rfl (lv_at hl 1 rfl) ?_
      refine z_getr hX hH 0 0 1 rfl rfl flX8_of_11 dX8_of_29 ?_
      refine z_iconst hx hb dX8_of_32 ?_
      refine lv_iload hx hb dX8_of_33 (lv_at hl 0 rfl) ?_
      refine z_iadd hx hb dX8_of_35 ?_
      obtain ⟨h8, hF⟩ := zg_e hF
      refine z_iald hX hH 1 3253 rfl h8 (by decide) dX8_of_36 ?_
      obtain ⟨v9, ev9, hF⟩ := zl_e hF
      refine z_istore ev9 (lv' := [(5, .int (nZ v9)), (4, .int (nZ v7)), (0, .ref (α 0)), (1, .int (nZ a1)), (2, .int (nZ a2)), (3, .int (nZ a3))]) hx hb dX8_of_37 hl (by decide) rfl (fun ls hl => ?_)
      refine lv_iload_n hx hb dX8_of_39 rfl (lv_at hl 5 rfl) ?_
      obtain ⟨h10, hF⟩ := zg_e hF
      by_cases hc : a3 < (0:Int) ∨ (5:Int) < a3
      · have hF := zi_t hF hc
        refine z_tableOut (tgt := 209) hx hb h10 hc dX8_of_40 (by decide) ?_
        refine lv_iload hx hb dX8_of_209 (lv_at hl 0 rfl) ?_
        obtain ⟨h11, hF⟩ := zg_e hF
        refine z_if_ne (tgt := 219) hx hb h11 dX8_of_211 (by decide) (fun hc => ?_) (fun hc => ?_)
        · have hF := zi_f hF hc
          refine lv_aload_n hx hb dX8_of_219 rfl (lv_at hl 2 rfl) ?_
          refine lv_iload hx hb dX8_of_220 (lv_at hl 1 rfl) ?_
          obtain ⟨r14, M13, c12, hF⟩ := zc2_e hF
          refine z_sameVi (As := [.int (nZ v7)]) hX hH 0 8 (ctX8_placeOf l D cs α N M v7 r14 M13 c12) (cwV 1 hts gX8_of_X8_placeOf rfl rfl rfl (by decide +kernel) ⟨Nat.le_of_ble_eq_true rfl, Nat.le_of_ble_eq_true rfl⟩) rfl rfl rfl hl.1 (Nat.le_of_ble_eq_true rfl) rfl dX8_of_222 ⟨Nat.zero_le _, Nat.zero_le _⟩ (fun H locs hH => ?_)
          exact z_iret hX hr hlocks hH hF rfl dX8_of_225
        · have hF := zi_t hF hc
          refine z_bipush (v := -5) hx hb dX8_of_214 (by decide +kernel) ?_
          refine lv_goto (tgt := 225) hx hb dX8_of_216 (by decide) ?_
          exact z_iret hX hr hlocks hH hF rfl dX8_of_225
      have hF := zi_f hF hc
      by_cases hc : a3 = (0:Int)
      · have hF := zi_t hF hc
        refine z_tableIn (tgt := 80) (v := 0) hx hb hc (by decide) dX8_of_40 (by decide +kernel) (by decide +kernel) rfl (by decide) ?_
        refine lv_iload hx hb dX8_of_80 (lv_at hl 0 rfl) ?_
        exact z_iret hX hr hlocks hH hF rfl dX8_of_82
      have hF := zi_f hF hc
      by_cases hc : a3 = (1:Int)
      · have hF := zi_t hF hc
        refine z_tableIn (tgt := 83) (v := 1) hx hb hc (by decide) dX8_of_40 (by decide +kernel) (by decide +kernel) rfl (by decide) ?_
        refine lv_iload hx hb dX8_of_83 (lv_at hl 0 rfl) ?_
        obtain ⟨h15, hF⟩ := zg_e hF
        refine z_if_ne (tgt := 93) hx hb h15 dX8_of_85 (by decide) (fun hc => ?_) (fun hc => ?_)
        · have hF := zi_f hF hc
          refine lv_aload_n hx hb dX8_of_93 rfl (lv_at hl 2 rfl) ?_
          refine z_getr hX hH 0 0 1 rfl rfl flX8_of_11 dX8_of_94 ?_
          refine z_sipush (v := 800) hx hb dX8_of_97 (by decide +kernel) ?_
          refine lv_iload hx hb dX8_of_100 (lv_at hl 1 rfl) ?_
          refine z_iadd hx hb dX8_of_102 ?_
          obtain ⟨h16, hF⟩ := zg_e hF
          refine z_iald hX hH 1 3253 rfl h16 (by decide) dX8_of_103 ?_
          exact z_iret hX hr hlocks hH hF rfl dX8_of_104
        · have hF := zi_t hF hc
          refine z_bipush (v := -5) hx hb dX8_of_88 (by decide +kernel) ?_
          refine lv_goto (tgt := 104) hx hb dX8_of_90 (by decide) ?_
          exact z_iret hX hr hlocks hH hF rfl dX8_of_104
      have hF := zi_f hF hc
      by_cases hc : a3 = (2:Int)
      · have hF := zi_t hF hc
        refine z_tableIn (tgt := 105) (v := 2) hx hb hc (by decide) dX8_of_40 (by decide +kernel) (by decide +kernel) rfl (by decide) ?_
        refine lv_aload_n hx hb dX8_of_105 rfl (lv_at hl 2 rfl) ?_
        refine lv_iload hx hb dX8_of_106 (lv_at hl 1 rfl) ?_
        obtain ⟨r19, M18, c17, hF⟩ := zc2_e hF
        refine z_sameVi (As := [.int (nZ v7)]) hX hH 0 8 (ctX8_isThing l D cs α N M v7 r19 M18 c17) (cwV 1 hts gX8_of_X8_isThing rfl rfl rfl (by decide +kernel) ⟨Nat.le_of_ble_eq_true rfl, Nat.le_of_ble_eq_true rfl⟩) rfl rfl rfl hl.1 (Nat.le_of_ble_eq_true rfl) rfl dX8_of_108 ⟨Nat.zero_le _, Nat.zero_le _⟩ (fun H locs hH => ?_)
        obtain ⟨h20, hF⟩ := zg_e hF
        refine z_if_eq (tgt := 128) hx hb h20 dX8_of_111 (by decide) (fun hc => ?_) (fun hc => ?_)
        · have hF := zi_t hF hc
          refine z_bipush (v := -5) hx hb dX8_of_128 (by decide +kernel) ?_
          exact z_iret hX hr hlocks hH hF rfl dX8_of_130
        · have hF := zi_f hF hc
          refine lv_aload_n hx hb dX8_of_114 rfl (lv_at hl 2 rfl) ?_
          refine z_getr hX hH 0 0 1 rfl rfl flX8_of_11 dX8_of_115 ?_
          refine z_sipush (v := 1200) hx hb dX8_of_118 (by decide +kernel) ?_
          refine lv_iload hx hb dX8_of_121 (lv_at hl 1 rfl) ?_
          refine z_iadd hx hb dX8_of_123 ?_
          obtain ⟨h21, hF⟩ := zg_e hF
          refine z_iald hX hH 1 3253 rfl h21 (by decide) dX8_of_124 ?_
          refine lv_goto (tgt := 130) hx hb dX8_of_125 (by decide) ?_
          exact z_iret hX hr hlocks hH hF rfl dX8_of_130
      have hF := zi_f hF hc
      by_cases hc : a3 = (3:Int)
      · have hF := zi_t hF hc
        refine z_tableIn (tgt := 131) (v := 3) hx hb hc (by decide) dX8_of_40 (by decide +kernel) (by decide +kernel) rfl (by decide) ?_
        refine lv_aload_n hx hb dX8_of_131 rfl (lv_at hl 2 rfl) ?_
        refine lv_iload hx hb dX8_of_132 (lv_at hl 1 rfl) ?_
        obtain ⟨r24, M23, c22, hF⟩ := zc2_e hF
        refine z_sameVi (As := [.int (nZ v7)]) hX hH 0 8 (ctX8_isThing l D cs α N M v7 r24 M23 c22) (cwV 1 hts gX8_of_X8_isThing rfl rfl rfl (by decide +kernel) ⟨Nat.le_of_ble_eq_true rfl, Nat.le_of_ble_eq_true rfl⟩) rfl rfl rfl hl.1 (Nat.le_of_ble_eq_true rfl) rfl dX8_of_134 ⟨Nat.zero_le _, Nat.zero_le _⟩ (fun H locs hH => ?_)
        obtain ⟨h25, hF⟩ := zg_e hF
        refine z_if_eq (tgt := 154) hx hb h25 dX8_of_137 (by decide) (fun hc => ?_) (fun hc => ?_)
        · have hF := zi_t hF hc
          refine z_bipush (v := -5) hx hb dX8_of_154 (by decide +kernel) ?_
          exact z_iret hX hr hlocks hH hF rfl dX8_of_156
        · have hF := zi_f hF hc
          refine lv_aload_n hx hb dX8_of_140 rfl (lv_at hl 2 rfl) ?_
          refine z_getr hX hH 0 0 1 rfl rfl flX8_of_11 dX8_of_141 ?_
          refine z_sipush (v := 1600) hx hb dX8_of_144 (by decide +kernel) ?_
          refine lv_iload hx hb dX8_of_147 (lv_at hl 1 rfl) ?_
          refine z_iadd hx hb dX8_of_149 ?_
          obtain ⟨h26, hF⟩ := zg_e hF
          refine z_iald hX hH 1 3253 rfl h26 (by decide) dX8_of_150 ?_
          refine lv_goto (tgt := 156) hx hb dX8_of_151 (by decide) ?_
          exact z_iret hX hr hlocks hH hF rfl dX8_of_156
      have hF := zi_f hF hc
      by_cases hc : a3 = (4:Int)
      · have hF := zi_t hF hc
        refine z_tableIn (tgt := 157) (v := 4) hx hb hc (by decide) dX8_of_40 (by decide +kernel) (by decide +kernel) rfl (by decide) ?_
        refine lv_aload_n hx hb dX8_of_157 rfl (lv_at hl 2 rfl) ?_
        refine lv_iload hx hb dX8_of_158 (lv_at hl 1 rfl) ?_
        obtain ⟨r29, M28, c27, hF⟩ := zc2_e hF
        refine z_sameVi (As := [.int (nZ v7)]) hX hH 0 8 (ctX8_isThing l D cs α N M v7 r29 M28 c27) (cwV 1 hts gX8_of_X8_isThing rfl rfl rfl (by decide +kernel) ⟨Nat.le_of_ble_eq_true rfl, Nat.le_of_ble_eq_true rfl⟩) rfl rfl rfl hl.1 (Nat.le_of_ble_eq_true rfl) rfl dX8_of_160 ⟨Nat.zero_le _, Nat.zero_le _⟩ (fun H locs hH => ?_)
        obtain ⟨h30, hF⟩ := zg_e hF
        refine z_if_eq (tgt := 180) hx hb h30 dX8_of_163 (by decide) (fun hc => ?_) (fun hc => ?_)
        · have hF := zi_t hF hc
          refine z_bipush (v := -5) hx hb dX8_of_180 (by decide +kernel) ?_
          exact z_iret hX hr hlocks hH hF rfl dX8_of_182
        · have hF := zi_f hF hc
          refine lv_aload_n hx hb dX8_of_166 rfl (lv_at hl 2 rfl) ?_
          refine z_getr hX hH 0 0 1 rfl rfl flX8_of_11 dX8_of_167 ?_
          refine z_sipush (v := 2000) hx hb dX8_of_170 (by decide +kernel) ?_
          refine lv_iload hx hb dX8_of_173 (lv_at hl 1 rfl) ?_
          refine z_iadd hx hb dX8_of_175 ?_
          obtain ⟨h31, hF⟩ := zg_e hF
          refine z_iald hX hH 1 3253 rfl h31 (by decide) dX8_of_176 ?_
          refine lv_goto (tgt := 182) hx hb dX8_of_177 (by decide) ?_
          exact z_iret hX hr hlocks hH hF rfl dX8_of_182
      have hF := zi_f hF hc
      by_cases hc : a3 = (5:Int)
      · have hF := zi_t hF hc
        refine z_tableIn (tgt := 183) (v := 5) hx hb hc (by decide) dX8_of_40 (by decide +kernel) (by decide +kernel) rfl (by decide) ?_
        refine lv_aload_n hx hb dX8_of_183 rfl (lv_at hl 2 rfl) ?_
        refine lv_iload hx hb dX8_of_184 (lv_at hl 1 rfl) ?_
        obtain ⟨r34, M33, c32, hF⟩ := zc2_e hF
        refine z_sameVi (As := [.int (nZ v7)]) hX hH 0 8 (ctX8_isThing l D cs α N M v7 r34 M33 c32) (cwV 1 hts gX8_of_X8_isThing rfl rfl rfl (by decide +kernel) ⟨Nat.le_of_ble_eq_true rfl, Nat.le_of_ble_eq_true rfl⟩) rfl rfl rfl hl.1 (Nat.le_of_ble_eq_true rfl) rfl dX8_of_186 ⟨Nat.zero_le _, Nat.zero_le _⟩ (fun H locs hH => ?_)
        obtain ⟨h35, hF⟩ := zg_e hF
        refine z_if_eq (tgt := 206) hx hb h35 dX8_of_189 (by decide) (fun hc => ?_) (fun hc => ?_)
        · have hF := zi_t hF hc
          refine z_bipush (v := -5) hx hb dX8_of_206 (by decide +kernel) ?_
          exact z_iret hX hr hlocks hH hF rfl dX8_of_208
        · have hF := zi_f hF hc
          refine lv_aload_n hx hb dX8_of_192 rfl (lv_at hl 2 rfl) ?_
          refine z_getr hX hH 0 0 1 rfl rfl flX8_of_11 dX8_of_193 ?_
          refine z_sipush (v := 2400) hx hb dX8_of_196 (by decide +kernel) ?_
          refine lv_iload hx hb dX8_of_199 (lv_at hl 1 rfl) ?_
          refine z_iadd hx hb dX8_of_201 ?_
          obtain ⟨h36, hF⟩ := zg_e hF
          refine z_iald hX hH 1 3253 rfl h36 (by decide) dX8_of_202 ?_
          refine lv_goto (tgt := 208) hx hb dX8_of_203 (by decide) ?_
          exact z_iret hX hr hlocks hH hF rfl dX8_of_208
      have hF := zi_f hF hc
      cases hF
    · have hF := zi_t hF hc
      refine z_iconst hx hb dX8_of_18 ?_
      exact z_iret hX hr hlocks hH hF rfl dX8_of_19
theorem flX8_keyAt_11 : zF RX8 wsX8_keyAt 11 8 0 := ⟨_, TX8, _, rfl, by decide +kernel, by decide +kernel, by decide, rfl⟩
set_option maxHeartbeats 4000000 in
set_option maxRecDepth 100000 in
theorem ctX8_keyAt (l : Launch) (D : va_G) (cs : Nat → ClassId) (α : Nat → Nat) (N : Nat) (M : zM) (a1 : Int) (a2 : Int) (r : Int) (M' : zM) (hF : fX8_keyAt N a1 a2 M = some (r, M')) : Met l yX8_keyAt wsX8_keyAt ({ frames := 1, cells := 0, slots := 0, locals := 23 }) (zPre D cs LM α M [.ref (α 0), .int (nZ a1), .int (nZ a2)]) (zQi D cs LM α r M') 0 0 (zA LM.length α) := by
  refine z_met (cc := cX8_keyAt) (maxL := 4) (ret := (some .int)) (by decide +kernel) rfl RX8 rfl (Nat.le_of_ble_eq_true rfl) ?_
  intro p e s m below meth c ls hX hr hlocks hH hl
  have hx := hX.1.1
  have hb := hX.1.2.1
  have hts := hX.1.2.2.2.2
  have J32 : ∀ (k2 : Int → Int → Int → zM → Option (Int × zM)) (hk2 : ∀ (x1 : Int) (x2 : Int) (x3 : Int) (M0 : zM), k2 x1 x2 x3 M0 = some (r, M') → zGo p l e (headSpec wsX8_keyAt ({ frames := 1, cells := 0, slots := 0, locals := 23 })).room s m ([.ref (α 0), .int (nZ a1), .int (nZ a2)] : List Value).toArray below meth c (MQ below (zQi D cs LM α r M') ([.ref (α 0), .int (nZ a1), .int (nZ a2)] : List Value).toArray s 0 0 (zA LM.length α)) D cs LM α (zA LM.length α) 4 2 [(0, .ref (α 0)), (1, .int (nZ x1)), (2, .int (nZ x2)), (3, .int (nZ x3))] [] M0) (x1 : Int) (x2 : Int) (x3 : Int) (M0 : zM), sX8_keyAt_32 N k2 x1 x2 x3 M0 = some (r, M') → zGo p l e (headSpec wsX8_keyAt ({ frames := 1, cells := 0, slots := 0, locals := 23 })).room s m ([.ref (α 0), .int (nZ a1), .int (nZ a2)] : List Value).toArray below meth c (MQ below (zQi D cs LM α r M') ([.ref (α 0), .int (nZ a1), .int (nZ a2)] : List Value).toArray s 0 0 (zA LM.length α)) D cs LM α (zA LM.length α) 4 32 [(0, .ref (α 0)), (1, .int (nZ x1)), (2, .int (nZ x2)), (3, .int (nZ x3))] [] M0 := by
    intro k2 hk2 x1 x2 x3 M0 hF H locs ls hH hl
    unfold sX8_keyAt_32 at hF
    obtain ⟨v6, ev6, hF⟩ := zl_e hF
    refine z_iinc ev6 (lv' := [(3, .int (nZ v6)), (0, .ref (α 0)), (1, .int (nZ x1)), (2, .int (nZ x2))]) hx hb dX8_keyAt_32 hl (k := 3) rfl (by decide) rfl (fun ls hl => ?_)
    refine lv_goto (tgt := 2) hx hb dX8_keyAt_35 (by decide) ?_
    exact hk2 x1 x2 v6 M0 hF _ _ _ hH (lv_sub hl [1, 2, 3, 0] rfl)
  have L2 : ∀ (n : Nat) (x1 : Int) (x2 : Int) (x3 : Int) (M0 : zM), fX8_keyAt_2 N n x1 x2 x3 M0 = some (r, M') → zGo p l e (headSpec wsX8_keyAt ({ frames := 1, cells := 0, slots := 0, locals := 23 })).room s m ([.ref (α 0), .int (nZ a1), .int (nZ a2)] : List Value).toArray below meth c (MQ below (zQi D cs LM α r M') ([.ref (α 0), .int (nZ a1), .int (nZ a2)] : List Value).toArray s 0 0 (zA LM.length α)) D cs LM α (zA LM.length α) 4 2 [(0, .ref (α 0)), (1, .int (nZ x1)), (2, .int (nZ x2)), (3, .int (nZ x3))] [] M0 := by
    intro  n
    induction n with
    | zero =>
      intro x1 x2 x3 M0 hF
      have hF : (none : Option (Int × zM)) = some (r, M') := hF
      cases hF
    | succ n hk2 =>
      intro x1 x2 x3 M0 hF H locs ls hH hl
      have hF : sX8_keyAt_2 N (fun x1 x2 x3 M0 => fX8_keyAt_2 N n x1 x2 x3 M0) x1 x2 x3 M0 = some (r, M') := hF
      unfold sX8_keyAt_2 at hF
      refine lv_iload_n hx hb dX8_keyAt_2 rfl (lv_at hl 3 rfl) ?_
      refine z_sipush (v := 400) hx hb dX8_keyAt_3 (by decide +kernel) ?_
      obtain ⟨h2, hF⟩ := zg_e hF
      refine z_icmp_ge (tgt := 38) hx hb h2 (by decide) dX8_keyAt_6 (by decide) (fun hc => ?_) (fun hc => ?_)
      · have hF := zi_t hF hc
        refine z_bipush (v := -5) hx hb dX8_keyAt_38 (by decide +kernel) ?_
        exact z_iret hX hr hlocks hH hF rfl dX8_keyAt_40
      · have hF := zi_f hF hc
        refine lv_aload_n hx hb dX8_keyAt_9 rfl (lv_at hl 0 rfl) ?_
        refine z_getr hX hH 0 0 1 rfl rfl flX8_keyAt_11 dX8_keyAt_10 ?_
        refine z_iconst hx hb dX8_keyAt_13 ?_
        refine lv_iload_n hx hb dX8_keyAt_14 rfl (lv_at hl 3 rfl) ?_
        refine z_iadd hx hb dX8_keyAt_15 ?_
        obtain ⟨h3, hF⟩ := zg_e hF
        refine z_iald hX hH 1 3253 rfl h3 (by decide) dX8_keyAt_16 ?_
        refine lv_iload_n hx hb dX8_keyAt_17 rfl (lv_at hl 1 rfl) ?_
        obtain ⟨h4, hF⟩ := zg_e hF
        obtain ⟨h5, hF⟩ := zg_e hF
        refine z_icmp_ne (tgt := 32) hx hb h4 h5 dX8_keyAt_18 (by decide) (fun hc => ?_) (fun hc => ?_)
        · have hF := zi_f hF hc
          exact J32 (fun x1 x2 x3 M0 => fX8_keyAt_2 N n x1 x2 x3 M0) hk2 x1 x2 x3 M0 hF _ _ _ hH (lv_sub hl [0, 1, 2, 3] rfl)
        · have hF := zi_t hF hc
          refine lv_aload_n hx hb dX8_keyAt_21 rfl (lv_at hl 0 rfl) ?_
          refine lv_iload_n hx hb dX8_keyAt_22 rfl (lv_at hl 3 rfl) ?_
          obtain ⟨r9, M8, c7, hF⟩ := zc2_e hF
          refine z_sameVi (As := [.int (nZ x3)]) hX hH 0 8 (ctX8_placeOf l D cs α N M0 x3 r9 M8 c7) (cwV 1 hts gX8_keyAt_X8_placeOf rfl rfl rfl (by decide +kernel) ⟨Nat.le_of_ble_eq_true rfl, Nat.le_of_ble_eq_true rfl⟩) rfl rfl rfl hl.1 (Nat.le_of_ble_eq_true rfl) rfl dX8_keyAt_23 ⟨Nat.zero_le _, Nat.zero_le _⟩ (fun H locs hH => ?_)
          refine lv_iload_n hx hb dX8_keyAt_26 rfl (lv_at hl 2 rfl) ?_
          obtain ⟨h10, hF⟩ := zg_e hF
          obtain ⟨h11, hF⟩ := zg_e hF
          refine z_icmp_ne (tgt := 32) hx hb h10 h11 dX8_keyAt_27 (by decide) (fun hc => ?_) (fun hc => ?_)
          · have hF := zi_f hF hc
            exact J32 (fun x1 x2 x3 M0 => fX8_keyAt_2 N n x1 x2 x3 M0) hk2 x1 x2 x3 M8 hF _ _ _ hH (lv_sub hl [0, 1, 2, 3] rfl)
          · have hF := zi_t hF hc
            refine lv_iload_n hx hb dX8_keyAt_30 rfl (lv_at hl 3 rfl) ?_
            exact z_iret hX hr hlocks hH hF rfl dX8_keyAt_31
  have hl : lv_has ls 4 [(0, .ref (α 0)), (1, .int (nZ a1)), (2, .int (nZ a2))] := hl
  unfold fX8_keyAt at hF
  refine z_iconst hx hb dX8_keyAt_0 ?_
  obtain ⟨v1, ev1, hF⟩ := zl_e hF
  refine z_istore_n ev1 (lv' := [(3, .int (nZ v1)), (0, .ref (α 0)), (1, .int (nZ a1)), (2, .int (nZ a2))]) hx hb dX8_keyAt_1 rfl hl (by decide) rfl (fun ls hl => ?_)
  exact L2 N a1 a2 v1 M hF _ _ _ hH (lv_sub hl [1, 2, 3, 0] rfl)
set_option maxHeartbeats 4000000 in
set_option maxRecDepth 100000 in
theorem ctX8_key (l : Launch) (D : va_G) (cs : Nat → ClassId) (α : Nat → Nat) (N : Nat) (M : zM) (a1 : Int) (a2 : Int) (r : Int) (M' : zM) (hF : fX8_key N a1 a2 M = some (r, M')) : Met l yX8_key wsX8_key ({ frames := 2, cells := 0, slots := 0, locals := 46 }) (zPre D cs LM α M [.ref (α 0), .int (nZ a1), .int (nZ a2)]) (zQi D cs LM α r M') 0 0 (zA LM.length α) := by
  refine z_met (cc := cX8_key) (maxL := 3) (ret := (some .int)) (by decide +kernel) rfl RX8 rfl (Nat.le_of_ble_eq_true rfl) ?_
  intro p e s m below meth c ls hX hr hlocks hH hl
  have hx := hX.1.1
  have hb := hX.1.2.1
  have hts := hX.1.2.2.2.2
  have hl : lv_has ls 3 [(0, .ref (α 0)), (1, .int (nZ a1)), (2, .int (nZ a2))] := hl
  unfold fX8_key at hF
  refine lv_iload_n hx hb dX8_key_0 rfl (lv_at hl 1 rfl) ?_
  refine z_iconst hx hb dX8_key_1 ?_
  refine z_iconst hx hb dX8_key_2 ?_
  obtain ⟨r1, c2, hF⟩ := zc_e hF
  refine z_callSi (As := [.int (nZ a1), .int (nZ (1:Int)), .int (nZ (4:Int))]) (is := []) (Ll := []) hX hH rfl (ctX8_in l D cs (zsb [] α) N (zpk [] M) a1 (1:Int) (4:Int) r1 c2) (va_cwS 3 hts gX8_key_X8_in rfl rfl rfl (by decide +kernel) ⟨Nat.le_of_ble_eq_true rfl, Nat.le_of_ble_eq_true rfl⟩) rfl hl.1 (Nat.le_of_ble_eq_true rfl) rfl dX8_key_3 ⟨Nat.zero_le _, Nat.zero_le _⟩ (fun H locs hH => ?_)
  have hH : zH D cs LM α M (zA LM.length α) s H locs := hH
  obtain ⟨h3, hF⟩ := zg_e hF
  refine z_if_eq (tgt := 22) hx hb h3 dX8_key_6 (by decide) (fun hc => ?_) (fun hc => ?_)
  · have hF := zi_t hF hc
    refine z_iconst hx hb dX8_key_22 ?_
    exact z_iret hX hr hlocks hH hF rfl dX8_key_23
  · have hF := zi_f hF hc
    refine lv_iload_n hx hb dX8_key_9 rfl (lv_at hl 2 rfl) ?_
    obtain ⟨h4, hF⟩ := zg_e hF
    refine z_if_lt (tgt := 22) hx hb h4 dX8_key_10 (by decide) (fun hc => ?_) (fun hc => ?_)
    · have hF := zi_t hF hc
      refine z_iconst hx hb dX8_key_22 ?_
      exact z_iret hX hr hlocks hH hF rfl dX8_key_23
    · have hF := zi_f hF hc
      refine lv_aload_n hx hb dX8_key_13 rfl (lv_at hl 0 rfl) ?_
      refine lv_iload_n hx hb dX8_key_14 rfl (lv_at hl 1 rfl) ?_
      refine lv_iload_n hx hb dX8_key_15 rfl (lv_at hl 2 rfl) ?_
      obtain ⟨r7, M6, c5, hF⟩ := zc2_e hF
      refine z_sameVi (As := [.int (nZ a1), .int (nZ a2)]) hX hH 0 8 (ctX8_keyAt l D cs α N M a1 a2 r7 M6 c5) (cwV 2 hts gX8_key_X8_keyAt rfl rfl rfl (by decide +kernel) ⟨Nat.le_of_ble_eq_true rfl, Nat.le_of_ble_eq_true rfl⟩) rfl rfl rfl hl.1 (Nat.le_of_ble_eq_true rfl) rfl dX8_key_16 ⟨Nat.zero_le _, Nat.zero_le _⟩ (fun H locs hH => ?_)
      refine lv_goto (tgt := 23) hx hb dX8_key_19 (by decide) ?_
      exact z_iret hX hr hlocks hH hF rfl dX8_key_23
theorem flX8_gone_11 : zF RX8 wsX8_gone 11 8 0 := ⟨_, TX8, _, rfl, by decide +kernel, by decide +kernel, by decide, rfl⟩
set_option maxHeartbeats 4000000 in
set_option maxRecDepth 100000 in
theorem ctX8_gone (l : Launch) (D : va_G) (cs : Nat → ClassId) (α : Nat → Nat) (N : Nat) (M : zM) (a1 : Int) (r : Int) (M' : zM) (hF : fX8_gone N a1 M = some (r, M')) : Met l yX8_gone wsX8_gone ({ frames := 0, cells := 0, slots := 0, locals := 0 }) (zPre D cs LM α M [.ref (α 0), .int (nZ a1)]) (zQi D cs LM α r M') 0 0 (zA LM.length α) := by
  refine z_met (cc := cX8_gone) (maxL := 2) (ret := (some .int)) (by decide +kernel) rfl RX8 rfl (Nat.le_of_ble_eq_true rfl) ?_
  intro p e s m below meth c ls hX hr hlocks hH hl
  have hx := hX.1.1
  have hb := hX.1.2.1
  have hts := hX.1.2.2.2.2
  have hl : lv_has ls 2 [(0, .ref (α 0)), (1, .int (nZ a1))] := hl
  unfold fX8_gone at hF
  refine lv_iload_n hx hb dX8_gone_0 rfl (lv_at hl 1 rfl) ?_
  obtain ⟨h1, hF⟩ := zg_e hF
  refine z_if_ge (tgt := 6) hx hb h1 dX8_gone_1 (by decide) (fun hc => ?_) (fun hc => ?_)
  · have hF := zi_t hF hc
    refine lv_iload_n hx hb dX8_gone_6 rfl (lv_at hl 1 rfl) ?_
    refine z_bipush (v := 20) hx hb dX8_gone_7 (by decide +kernel) ?_
    refine z_icmp_ge (tgt := 37) hx hb h1 (by decide) dX8_gone_9 (by decide) (fun hc => ?_) (fun hc => ?_)
    · have hF := zi_t hF hc
      refine z_bipush (v := -5) hx hb dX8_gone_37 (by decide +kernel) ?_
      exact z_iret hX hr hlocks hH hF rfl dX8_gone_39
    · have hF := zi_f hF hc
      refine lv_iload_n hx hb dX8_gone_12 rfl (lv_at hl 1 rfl) ?_
      refine lv_aload_n hx hb dX8_gone_13 rfl (lv_at hl 0 rfl) ?_
      refine z_getr hX hH 0 0 1 rfl rfl flX8_gone_11 dX8_gone_14 ?_
      refine z_sipush (v := 3214) hx hb dX8_gone_17 (by decide +kernel) ?_
      refine z_iald hX hH 1 3253 rfl (by decide) (by decide) dX8_gone_20 ?_
      obtain ⟨h2, hF⟩ := zg_e hF
      refine z_icmp_ge (tgt := 37) hx hb h1 h2 dX8_gone_21 (by decide) (fun hc => ?_) (fun hc => ?_)
      · have hF := zi_t hF hc
        refine z_bipush (v := -5) hx hb dX8_gone_37 (by decide +kernel) ?_
        exact z_iret hX hr hlocks hH hF rfl dX8_gone_39
      · have hF := zi_f hF hc
        refine lv_aload_n hx hb dX8_gone_24 rfl (lv_at hl 0 rfl) ?_
        refine z_getr hX hH 0 0 1 rfl rfl flX8_gone_11 dX8_gone_25 ?_
        refine z_sipush (v := 3216) hx hb dX8_gone_28 (by decide +kernel) ?_
        refine lv_iload_n hx hb dX8_gone_31 rfl (lv_at hl 1 rfl) ?_
        refine z_iadd hx hb dX8_gone_32 ?_
        obtain ⟨h3, hF⟩ := zg_e hF
        refine z_iald hX hH 1 3253 rfl h3 (by decide) dX8_gone_33 ?_
        refine lv_goto (tgt := 39) hx hb dX8_gone_34 (by decide) ?_
        exact z_iret hX hr hlocks hH hF rfl dX8_gone_39
  · have hF := zi_f hF hc
    refine z_iconst hx hb dX8_gone_4 ?_
    exact z_iret hX hr hlocks hH hF rfl dX8_gone_5
