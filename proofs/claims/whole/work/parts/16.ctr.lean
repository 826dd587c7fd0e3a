/-! laid by wip/whole/gen.py: contracts -/
theorem flX8_victim_11 : zF RX8 wsX8_victim 11 8 0 := ⟨_, TX8, _, rfl, by decide +kernel, by decide +kernel, by decide, rfl⟩
theorem flX8_victim_15 : zF RX8 wsX8_victim 15 8 1 := ⟨_, TX8, _, rfl, by decide +kernel, by decide +kernel, by decide, rfl⟩
theorem em_LM_is_1n1_2n1 : zemb LM LCp is_1n1_2n1 = true := by decide +kernel
theorem fpX8_victim_62 : zFp RX8 wsX8_victim 62 8 5 .int := ⟨_, TX8, _, tyX8, rfl, by decide +kernel, by decide +kernel, by decide, rfl, tyX8_ok, nmX8, rfl, by decide +kernel⟩
theorem flX8_victim_62 : zF RX8 wsX8_victim 62 8 5 := ⟨_, TX8, _, rfl, by decide +kernel, by decide +kernel, by decide, rfl⟩
theorem em_LM_is_2n1_1n1 : zemb LM LCp is_2n1_1n1 = true := by decide +kernel
theorem flX8_victim_21 : zF RX8 wsX8_victim 21 8 4 := ⟨_, TX8, _, rfl, by decide +kernel, by decide +kernel, by decide, rfl⟩
set_option maxHeartbeats 4000000 in
set_option maxRecDepth 100000 in
theorem ctX8_victim (l : Launch) (D : va_G) (cs : Nat → ClassId) (α : Nat → Nat) (N : Nat) (M : zM) (a1 : Int) (r : Int) (M' : zM) (hF : fX8_victim N a1 M = some (r, M')) : Met l yX8_victim wsX8_victim ({ frames := 4, cells := 0, slots := 0, locals := 88 }) (zPre D cs LM α M [.ref (α 0), .int (nZ a1)]) (zQi D cs LM α r M') 0 0 (zA LM.length α) := by
  refine z_met (cc := cX8_victim) (maxL := 3) (ret := (some .int)) (by decide +kernel) rfl RX8 rfl (Nat.le_of_ble_eq_true rfl) ?_
  intro p e s m below meth c ls hX hr hlocks hH hl
  have hx := hX.1.1
  have hb := hX.1.2.1
  have hts := hX.1.2.2.2.2
  have J63 : ∀ (y0 : Int) (M0 : zM), sX8_victim_63 N y0 M0 = some (r, M') → zGo p l e (headSpec wsX8_victim ({ frames := 4, cells := 0, slots := 0, locals := 88 })).room s m ([.ref (α 0), .int (nZ a1)] : List Value).toArray below meth c (MQ below (zQi D cs LM α r M') ([.ref (α 0), .int (nZ a1)] : List Value).toArray s 0 0 (zA LM.length α)) D cs LM α (zA LM.length α) 3 63 [(0, .ref (α 0))] [.int (nZ y0)] M0 := by
    intro y0 M0 hF H locs ls hH hl
    unfold sX8_victim_63 at hF
    obtain ⟨v11, ev11, hF⟩ := zl_e hF
    refine z_istore_n ev11 (lv' := [(2, .int (nZ v11)), (0, .ref (α 0))]) hx hb dX8_victim_63 rfl hl (by decide) rfl (fun ls hl => ?_)
    refine lv_aload_n hx hb dX8_victim_64 rfl (lv_at hl 1 rfl) ?_
    refine z_getr hX hH 0 1 2 rfl rfl flX8_victim_15 dX8_victim_65 ?_
    refine lv_aload_n hx hb dX8_victim_68 rfl (lv_at hl 1 rfl) ?_
    refine z_getr hX hH 0 0 1 rfl rfl flX8_victim_11 dX8_victim_69 ?_
    obtain ⟨M13, c12, hF⟩ := zc_e hF
    obtain ⟨M14, eM14, hF⟩ := zl_e hF
    refine z_callSv (As := [.ref (α 2), .ref (α 1)]) (is := is_2n1_1n1) hX hH em_LM_is_2n1_1n1 (ctX8_copy l D cs (zsb is_2n1_1n1 α) N (zpk is_2n1_1n1 M0)  M13 c12) (va_cwS 2 hts gX8_victim_X8_copy rfl rfl rfl (by decide +kernel) ⟨Nat.le_of_ble_eq_true rfl, Nat.le_of_ble_eq_true rfl⟩) rfl hl.1 (Nat.le_of_ble_eq_true rfl) rfl dX8_victim_72 ⟨Nat.zero_le _, Nat.zero_le _⟩ (fun H locs hH => ?_)
    rw [← eM14] at hH
    refine lv_iload_n hx hb dX8_victim_75 rfl (lv_at hl 0 rfl) ?_
    exact z_iret hX hr hlocks hH hF rfl dX8_victim_76
  have hl : lv_has ls 3 [(0, .ref (α 0)), (1, .int (nZ a1))] := hl
  unfold fX8_victim at hF
  refine lv_iload_n hx hb dX8_victim_0 rfl (lv_at hl 1 rfl) ?_
  obtain ⟨h1, hF⟩ := zg_e hF
  refine z_if_ge (tgt := 6) hx hb h1 dX8_victim_1 (by decide) (fun hc => ?_) (fun hc => ?_)
  · have hF := zi_t hF hc
    refine lv_aload_n hx hb dX8_victim_6 rfl (lv_at hl 0 rfl) ?_
    refine z_getr hX hH 0 0 1 rfl rfl flX8_victim_11 dX8_victim_7 ?_
    refine lv_aload_n hx hb dX8_victim_10 rfl (lv_at hl 0 rfl) ?_
    refine z_getr hX hH 0 1 2 rfl rfl flX8_victim_15 dX8_victim_11 ?_
    obtain ⟨M3, c2, hF⟩ := zc_e hF
    obtain ⟨M4, eM4, hF⟩ := zl_e hF
    refine z_callSv (As := [.ref (α 1), .ref (α 2)]) (is := is_1n1_2n1) hX hH em_LM_is_1n1_2n1 (ctX8_copy l D cs (zsb is_1n1_2n1 α) N (zpk is_1n1_2n1 M)  M3 c2) (va_cwS 2 hts gX8_victim_X8_copy rfl rfl rfl (by decide +kernel) ⟨Nat.le_of_ble_eq_true rfl, Nat.le_of_ble_eq_true rfl⟩) rfl hl.1 (Nat.le_of_ble_eq_true rfl) rfl dX8_victim_14 ⟨Nat.zero_le _, Nat.zero_le _⟩ (fun H locs hH => ?_)
    rw [← eM4] at hH
    refine lv_aload_n hx hb dX8_victim_17 rfl (lv_at hl 0 rfl) ?_
    refine z_iconst hx hb dX8_victim_18 ?_
    obtain ⟨M5, eM5, hF⟩ := zl_e hF
    refine z_put hX hH 0 5 eM5 rfl rfl fpX8_victim_62 rfl rfl dX8_victim_19 (fun H locs hH => ?_)
    refine lv_aload_n hx hb dX8_victim_22 rfl (lv_at hl 0 rfl) ?_
    refine z_getr hX hH 0 0 1 rfl rfl flX8_victim_11 dX8_victim_23 ?_
    refine z_sipush (v := 3201) hx hb dX8_victim_26 (by decide +kernel) ?_
    refine z_iconst hx hb dX8_victim_29 ?_
    obtain ⟨M6, eM6, hF⟩ := zl_e hF
    refine z_iast hX hH 1 3253 eM6 rfl (by decide) (by decide) dX8_victim_30 (fun H locs hH => ?_)
    refine lv_aload_n hx hb dX8_victim_31 rfl (lv_at hl 0 rfl) ?_
    refine z_getr hX hH 0 0 1 rfl rfl flX8_victim_11 dX8_victim_32 ?_
    refine z_sipush (v := 3200) hx hb dX8_victim_35 (by decide +kernel) ?_
    refine z_iconst hx hb dX8_victim_38 ?_
    obtain ⟨M7, eM7, hF⟩ := zl_e hF
    refine z_iast hX hH 1 3253 eM7 rfl (by decide) (by decide) dX8_victim_39 (fun H locs hH => ?_)
    refine lv_aload_n hx hb dX8_victim_40 rfl (lv_at hl 0 rfl) ?_
    obtain ⟨M9, c8, hF⟩ := zc_e hF
    refine z_sameVv (As := []) hX hH 0 8 (ctX8_trim l D cs α N M7  M9 c8) (cwV 0 hts gX8_victim_X8_trim rfl rfl rfl (by decide +kernel) ⟨Nat.le_of_ble_eq_true rfl, Nat.le_of_ble_eq_true rfl⟩) rfl rfl rfl hl.1 (Nat.le_of_ble_eq_true rfl) rfl dX8_victim_41 ⟨Nat.zero_le _, Nat.zero_le _⟩ (fun H locs hH => ?_)
    refine lv_iload_n hx hb dX8_victim_44 rfl (lv_at hl 1 rfl) ?_
    refine lv_aload_n hx hb dX8_victim_45 rfl (lv_at hl 0 rfl) ?_
    refine z_geti hX hH 0 5 rfl rfl flX8_victim_62 dX8_victim_46 ?_
    obtain ⟨h10, hF⟩ := zg_e hF
    refine z_icmp_ge (tgt := 61) hx hb h1 h10 dX8_victim_49 (by decide) (fun hc => ?_) (fun hc => ?_)
    · have hF := zi_t hF hc
      refine z_bipush (v := -5) hx hb dX8_victim_61 (by decide +kernel) ?_
      exact J63 (-5:Int) M9 hF _ _ _ hH (lv_sub hl [0] rfl)
    · have hF := zi_f hF hc
      refine lv_aload_n hx hb dX8_victim_52 rfl (lv_at hl 0 rfl) ?_
      refine z_getr hX hH 0 4 4 rfl rfl flX8_victim_21 dX8_victim_53 ?_
      refine lv_iload_n hx hb dX8_victim_56 rfl (lv_at hl 1 rfl) ?_
      obtain ⟨h15, hF⟩ := zg_e hF
      refine z_iald hX hH 4 400 rfl h15 (by decide) dX8_victim_57 ?_
      refine lv_goto (tgt := 63) hx hb dX8_victim_58 (by decide) ?_
      exact J63 (M9 4 a1.toNat) M9 hF _ _ _ hH (lv_sub hl [0] rfl)
  · have hF := zi_f hF hc
    refine z_iconst hx hb dX8_victim_4 ?_
    exact z_iret hX hr hlocks hH hF rfl dX8_victim_5
theorem flX8_feed_124 : zF RX8 wsX8_feed 124 8 7 := ⟨_, TX8, _, rfl, by decide +kernel, by decide +kernel, by decide, rfl⟩
theorem flX8_feed_24 : zF RX8 wsX8_feed 24 8 6 := ⟨_, TX8, _, rfl, by decide +kernel, by decide +kernel, by decide, rfl⟩
theorem fpX8_feed_124 : zFp RX8 wsX8_feed 124 8 7 .int := ⟨_, TX8, _, tyX8, rfl, by decide +kernel, by decide +kernel, by decide, rfl, tyX8_ok, nmX8, rfl, by decide +kernel⟩
set_option maxHeartbeats 4000000 in
set_option maxRecDepth 100000 in
theorem ctX8_feed (l : Launch) (D : va_G) (cs : Nat → ClassId) (α : Nat → Nat) (N : Nat) (M : zM) (a1 : Int) (r : Int) (M' : zM) (hF : fX8_feed N a1 M = some (r, M')) : Met l yX8_feed wsX8_feed ({ frames := 1, cells := 0, slots := 0, locals := 22 }) (zPre D cs LM α M [.ref (α 0), .int (nZ a1)]) (zQi D cs LM α r M') 0 0 (zA LM.length α) := by
  refine z_met (cc := cX8_feed) (maxL := 2) (ret := (some .int)) (by decide +kernel) rfl RX8 rfl (Nat.le_of_ble_eq_true rfl) ?_
  intro p e s m below meth c ls hX hr hlocks hH hl
  have hx := hX.1.1
  have hb := hX.1.2.1
  have hts := hX.1.2.2.2.2
  have hl : lv_has ls 2 [(0, .ref (α 0)), (1, .int (nZ a1))] := hl
  unfold fX8_feed at hF
  refine lv_iload_n hx hb dX8_feed_0 rfl (lv_at hl 1 rfl) ?_
  refine z_iconst hx hb dX8_feed_1 ?_
  refine z_bipush (v := 127) hx hb dX8_feed_2 (by decide +kernel) ?_
  obtain ⟨r1, c2, hF⟩ := zc_e hF
  refine z_callSi (As := [.int (nZ a1), .int (nZ (0:Int)), .int (nZ (127:Int))]) (is := []) (Ll := []) hX hH rfl (ctX8_in l D cs (zsb [] α) N (zpk [] M) a1 (0:Int) (127:Int) r1 c2) (va_cwS 3 hts gX8_feed_X8_in rfl rfl rfl (by decide +kernel) ⟨Nat.le_of_ble_eq_true rfl, Nat.le_of_ble_eq_true rfl⟩) rfl hl.1 (Nat.le_of_ble_eq_true rfl) rfl dX8_feed_4 ⟨Nat.zero_le _, Nat.zero_le _⟩ (fun H locs hH => ?_)
  have hH : zH D cs LM α M (zA LM.length α) s H locs := hH
  obtain ⟨h3, hF⟩ := zg_e hF
  refine z_if_ne (tgt := 13) hx hb h3 dX8_feed_7 (by decide) (fun hc => ?_) (fun hc => ?_)
  · have hF := zi_f hF hc
    refine lv_aload_n hx hb dX8_feed_13 rfl (lv_at hl 0 rfl) ?_
    refine z_geti hX hH 0 7 rfl rfl flX8_feed_124 dX8_feed_14 ?_
    refine z_bipush (v := 100) hx hb dX8_feed_17 (by decide +kernel) ?_
    obtain ⟨h4, hF⟩ := zg_e hF
    refine z_icmp_ne (tgt := 25) hx hb h4 (by decide) dX8_feed_19 (by decide) (fun hc => ?_) (fun hc => ?_)
    · have hF := zi_f hF hc
      refine lv_aload_n hx hb dX8_feed_25 rfl (lv_at hl 0 rfl) ?_
      refine z_getr hX hH 0 6 5 rfl rfl flX8_feed_24 dX8_feed_26 ?_
      refine lv_aload_n hx hb dX8_feed_29 rfl (lv_at hl 0 rfl) ?_
      refine lv_dup hx hb dX8_feed_30 rfl ?_
      refine z_geti hX hH 0 7 rfl rfl flX8_feed_124 dX8_feed_31 ?_
      refine lv_dup_x1 hx hb dX8_feed_34 rfl rfl ?_
      refine z_iconst hx hb dX8_feed_35 ?_
      refine z_iadd hx hb dX8_feed_36 ?_
      obtain ⟨M5, eM5, hF⟩ := zl_e hF
      refine z_put hX hH 0 7 eM5 rfl rfl fpX8_feed_124 rfl rfl dX8_feed_37 (fun H locs hH => ?_)
      refine lv_iload_n hx hb dX8_feed_40 rfl (lv_at hl 1 rfl) ?_
      obtain ⟨h6, hF⟩ := zg_e hF
      obtain ⟨M7, eM7, hF⟩ := zl_e hF
      refine z_iast hX hH 5 100 eM7 rfl h6 (by decide) dX8_feed_41 (fun H locs hH => ?_)
      refine lv_aload_n hx hb dX8_feed_42 rfl (lv_at hl 0 rfl) ?_
      refine z_geti hX hH 0 7 rfl rfl flX8_feed_124 dX8_feed_43 ?_
      exact z_iret hX hr hlocks hH hF rfl dX8_feed_46
    · have hF := zi_t hF hc
      refine z_bipush (v := -4) hx hb dX8_feed_22 (by decide +kernel) ?_
      exact z_iret hX hr hlocks hH hF rfl dX8_feed_24
  · have hF := zi_t hF hc
    refine z_bipush (v := -2) hx hb dX8_feed_10 (by decide +kernel) ?_
    exact z_iret hX hr hlocks hH hF rfl dX8_feed_12
theorem flX8_sees_127 : zF RX8 wsX8_sees 127 8 18 := ⟨_, TX8, _, rfl, by decide +kernel, by decide +kernel, by decide, rfl⟩
theorem flX8_sees_130 : zF RX8 wsX8_sees 130 8 17 := ⟨_, TX8, _, rfl, by decide +kernel, by decide +kernel, by decide, rfl⟩
theorem flX8_sees_124 : zF RX8 wsX8_sees 124 8 7 := ⟨_, TX8, _, rfl, by decide +kernel, by decide +kernel, by decide, rfl⟩
theorem flX8_sees_24 : zF RX8 wsX8_sees 24 8 6 := ⟨_, TX8, _, rfl, by decide +kernel, by decide +kernel, by decide, rfl⟩
set_option maxHeartbeats 4000000 in
set_option maxRecDepth 100000 in
theorem ctX8_sees (l : Launch) (D : va_G) (cs : Nat → ClassId) (α : Nat → Nat) (N : Nat) (M : zM) (a1 : Int) (a2 : Int) (r : Int) (M' : zM) (hF : fX8_sees N a1 a2 M = some (r, M')) : Met l yX8_sees wsX8_sees ({ frames := 1, cells := 0, slots := 0, locals := 22 }) (zPre D cs LM α M [.ref (α 0), .int (nZ a1), .int (nZ a2)]) (zQi D cs LM α r M') 0 0 (zA LM.length α) := by
  refine z_met (cc := cX8_sees) (maxL := 3) (ret := (some .boolean)) (by decide +kernel) rfl RX8 rfl (Nat.le_of_ble_eq_true rfl) ?_
  intro p e s m below meth c ls hX hr hlocks hH hl
  have hx := hX.1.1
  have hb := hX.1.2.1
  have hts := hX.1.2.2.2.2
  have hl : lv_has ls 3 [(0, .ref (α 0)), (1, .int (nZ a1)), (2, .int (nZ a2))] := hl
  unfold fX8_sees at hF
  refine lv_aload_n hx hb dX8_sees_0 rfl (lv_at hl 0 rfl) ?_
  refine z_geti hX hH 0 18 rfl rfl flX8_sees_127 dX8_sees_1 ?_
  obtain ⟨h1, hF⟩ := zg_e hF
  refine z_if_ge (tgt := 39) hx hb h1 dX8_sees_4 (by decide) (fun hc => ?_) (fun hc => ?_)
  · have hF := zi_t hF hc
    refine z_iconst hx hb dX8_sees_39 ?_
    exact z_iret hX hr hlocks hH hF rfl dX8_sees_40
  · have hF := zi_f hF hc
    refine lv_aload_n hx hb dX8_sees_7 rfl (lv_at hl 0 rfl) ?_
    refine z_geti hX hH 0 17 rfl rfl flX8_sees_130 dX8_sees_8 ?_
    refine lv_aload_n hx hb dX8_sees_11 rfl (lv_at hl 0 rfl) ?_
    refine z_geti hX hH 0 7 rfl rfl flX8_sees_124 dX8_sees_12 ?_
    obtain ⟨h2, hF⟩ := zg_e hF
    obtain ⟨h3, hF⟩ := zg_e hF
    refine z_icmp_ge (tgt := 39) hx hb h2 h3 dX8_sees_15 (by decide) (fun hc => ?_) (fun hc => ?_)
    · have hF := zi_t hF hc
      refine z_iconst hx hb dX8_sees_39 ?_
      exact z_iret hX hr hlocks hH hF rfl dX8_sees_40
    · have hF := zi_f hF hc
      refine lv_aload_n hx hb dX8_sees_18 rfl (lv_at hl 0 rfl) ?_
      refine z_getr hX hH 0 6 5 rfl rfl flX8_sees_24 dX8_sees_19 ?_
      refine lv_aload_n hx hb dX8_sees_22 rfl (lv_at hl 0 rfl) ?_
      refine z_geti hX hH 0 17 rfl rfl flX8_sees_130 dX8_sees_23 ?_
      obtain ⟨h4, hF⟩ := zg_e hF
      refine z_iald hX hH 5 100 rfl h4 (by decide) dX8_sees_26 ?_
      refine lv_iload_n hx hb dX8_sees_27 rfl (lv_at hl 1 rfl) ?_
      refine lv_iload_n hx hb dX8_sees_28 rfl (lv_at hl 2 rfl) ?_
      obtain ⟨r5, c6, hF⟩ := zc_e hF
      refine z_callSi (As := [.int (nZ (M 5 (M 0 17).toNat)), .int (nZ a1), .int (nZ a2)]) (is := []) (Ll := []) hX hH rfl (ctX8_in l D cs (zsb [] α) N (zpk [] M) (M 5 (M 0 17).toNat) a1 a2 r5 c6) (va_cwS 3 hts gX8_sees_X8_in rfl rfl rfl (by decide +kernel) ⟨Nat.le_of_ble_eq_true rfl, Nat.le_of_ble_eq_true rfl⟩) rfl hl.1 (Nat.le_of_ble_eq_true rfl) rfl dX8_sees_29 ⟨Nat.zero_le _, Nat.zero_le _⟩ (fun H locs hH => ?_)
      have hH : zH D cs LM α M (zA LM.length α) s H locs := hH
      obtain ⟨h7, hF⟩ := zg_e hF
      refine z_if_eq (tgt := 39) hx hb h7 dX8_sees_32 (by decide) (fun hc => ?_) (fun hc => ?_)
      · have hF := zi_t hF hc
        refine z_iconst hx hb dX8_sees_39 ?_
        exact z_iret hX hr hlocks hH hF rfl dX8_sees_40
      · have hF := zi_f hF hc
        refine z_iconst hx hb dX8_sees_35 ?_
        refine lv_goto (tgt := 40) hx hb dX8_sees_36 (by decide) ?_
        exact z_iret hX hr hlocks hH hF rfl dX8_sees_40
theorem flX8_must_24 : zF RX8 wsX8_must 24 8 6 := ⟨_, TX8, _, rfl, by decide +kernel, by decide +kernel, by decide, rfl⟩
theorem flX8_must_130 : zF RX8 wsX8_must 130 8 17 := ⟨_, TX8, _, rfl, by decide +kernel, by decide +kernel, by decide, rfl⟩
theorem fpX8_must_130 : zFp RX8 wsX8_must 130 8 17 .int := ⟨_, TX8, _, tyX8, rfl, by decide +kernel, by decide +kernel, by decide, rfl, tyX8_ok, nmX8, rfl, by decide +kernel⟩
theorem flX8_must_127 : zF RX8 wsX8_must 127 8 18 := ⟨_, TX8, _, rfl, by decide +kernel, by decide +kernel, by decide, rfl⟩
theorem fpX8_must_127 : zFp RX8 wsX8_must 127 8 18 .int := ⟨_, TX8, _, tyX8, rfl, by decide +kernel, by decide +kernel, by decide, rfl, tyX8_ok, nmX8, rfl, by decide +kernel⟩
set_option maxHeartbeats 4000000 in
set_option maxRecDepth 100000 in
theorem ctX8_must (l : Launch) (D : va_G) (cs : Nat → ClassId) (α : Nat → Nat) (N : Nat) (M : zM) (a1 : Int) (a2 : Int) (r : Int) (M' : zM) (hF : fX8_must N a1 a2 M = some (r, M')) : Met l yX8_must wsX8_must ({ frames := 2, cells := 0, slots := 0, locals := 44 }) (zPre D cs LM α M [.ref (α 0), .int (nZ a1), .int (nZ a2)]) (zQi D cs LM α r M') 0 0 (zA LM.length α) := by
  refine z_met (cc := cX8_must) (maxL := 3) (ret := (some .int)) (by decide +kernel) rfl RX8 rfl (Nat.le_of_ble_eq_true rfl) ?_
  intro p e s m below meth c ls hX hr hlocks hH hl
  have hx := hX.1.1
  have hb := hX.1.2.1
  have hts := hX.1.2.2.2.2
  have J28 : ∀ (x1 : Int) (y0 : Int) (M0 : zM), sX8_must_28 N x1 y0 M0 = some (r, M') → zGo p l e (headSpec wsX8_must ({ frames := 2, cells := 0, slots := 0, locals := 44 })).room s m ([.ref (α 0), .int (nZ a1), .int (nZ a2)] : List Value).toArray below meth c (MQ below (zQi D cs LM α r M') ([.ref (α 0), .int (nZ a1), .int (nZ a2)] : List Value).toArray s 0 0 (zA LM.length α)) D cs LM α (zA LM.length α) 3 28 [(1, .int (nZ x1))] [.int (nZ y0), .ref (α 0)] M0 := by
    intro x1 y0 M0 hF H locs ls hH hl
    unfold sX8_must_28 at hF
    obtain ⟨M8, eM8, hF⟩ := zl_e hF
    refine z_put hX hH 0 18 eM8 rfl rfl fpX8_must_127 rfl rfl dX8_must_28 (fun H locs hH => ?_)
    refine lv_iload_n hx hb dX8_must_31 rfl (lv_at hl 0 rfl) ?_
    exact z_iret hX hr hlocks hH hF rfl dX8_must_32
  have hl : lv_has ls 3 [(0, .ref (α 0)), (1, .int (nZ a1)), (2, .int (nZ a2))] := hl
  unfold fX8_must at hF
  refine lv_aload_n hx hb dX8_must_0 rfl (lv_at hl 0 rfl) ?_
  refine lv_iload_n hx hb dX8_must_1 rfl (lv_at hl 1 rfl) ?_
  refine lv_iload_n hx hb dX8_must_2 rfl (lv_at hl 2 rfl) ?_
  obtain ⟨r3, M2, c1, hF⟩ := zc2_e hF
  refine z_sameVi (As := [.int (nZ a1), .int (nZ a2)]) hX hH 0 8 (ctX8_sees l D cs α N M a1 a2 r3 M2 c1) (cwV 2 hts gX8_must_X8_sees rfl rfl rfl (by decide +kernel) ⟨Nat.le_of_ble_eq_true rfl, Nat.le_of_ble_eq_true rfl⟩) rfl rfl rfl hl.1 (Nat.le_of_ble_eq_true rfl) rfl dX8_must_3 ⟨Nat.zero_le _, Nat.zero_le _⟩ (fun H locs hH => ?_)
  obtain ⟨h4, hF⟩ := zg_e hF
  refine z_if_ne (tgt := 33) hx hb h4 dX8_must_6 (by decide) (fun hc => ?_) (fun hc => ?_)
  · have hF := zi_f hF hc
    refine lv_aload_n hx hb dX8_must_33 rfl (lv_at hl 0 rfl) ?_
    refine z_getr hX hH 0 6 5 rfl rfl flX8_must_24 dX8_must_34 ?_
    refine lv_aload_n hx hb dX8_must_37 rfl (lv_at hl 0 rfl) ?_
    refine lv_dup hx hb dX8_must_38 rfl ?_
    refine z_geti hX hH 0 17 rfl rfl flX8_must_130 dX8_must_39 ?_
    refine lv_dup_x1 hx hb dX8_must_42 rfl rfl ?_
    refine z_iconst hx hb dX8_must_43 ?_
    refine z_iadd hx hb dX8_must_44 ?_
    obtain ⟨M5, eM5, hF⟩ := zl_e hF
    refine z_put hX hH 0 17 eM5 rfl rfl fpX8_must_130 rfl rfl dX8_must_45 (fun H locs hH => ?_)
    obtain ⟨h6, hF⟩ := zg_e hF
    refine z_iald hX hH 5 100 rfl h6 (by decide) dX8_must_48 ?_
    exact z_iret hX hr hlocks hH hF rfl dX8_must_49
  · have hF := zi_t hF hc
    refine lv_aload_n hx hb dX8_must_9 rfl (lv_at hl 0 rfl) ?_
    refine lv_aload_n hx hb dX8_must_10 rfl (lv_at hl 0 rfl) ?_
    refine z_geti hX hH 0 18 rfl rfl flX8_must_127 dX8_must_11 ?_
    obtain ⟨h7, hF⟩ := zg_e hF
    refine z_if_ge (tgt := 24) hx hb h7 dX8_must_14 (by decide) (fun hc => ?_) (fun hc => ?_)
    · have hF := zi_t hF hc
      refine lv_aload_n hx hb dX8_must_24 rfl (lv_at hl 0 rfl) ?_
      refine z_geti hX hH 0 18 rfl rfl flX8_must_127 dX8_must_25 ?_
      exact J28 a1 (M2 0 18) M2 hF _ _ _ hH (lv_sub hl [1] rfl)
    · have hF := zi_f hF hc
      refine lv_aload_n hx hb dX8_must_17 rfl (lv_at hl 0 rfl) ?_
      refine z_geti hX hH 0 17 rfl rfl flX8_must_130 dX8_must_18 ?_
      refine lv_goto (tgt := 28) hx hb dX8_must_21 (by decide) ?_
      exact J28 a1 (M2 0 17) M2 hF _ _ _ hH (lv_sub hl [1] rfl)
theorem flX8_clause_24 : zF RX8 wsX8_clause 24 8 6 := ⟨_, TX8, _, rfl, by decide +kernel, by decide +kernel, by decide, rfl⟩
theorem flX8_clause_130 : zF RX8 wsX8_clause 130 8 17 := ⟨_, TX8, _, rfl, by decide +kernel, by decide +kernel, by decide, rfl⟩
theorem fpX8_clause_130 : zFp RX8 wsX8_clause 130 8 17 .int := ⟨_, TX8, _, tyX8, rfl, by decide +kernel, by decide +kernel, by decide, rfl, tyX8_ok, nmX8, rfl, by decide +kernel⟩
theorem flX8_clause_27 : zF RX8 wsX8_clause 27 8 8 := ⟨_, TX8, _, rfl, by decide +kernel, by decide +kernel, by decide, rfl⟩
theorem flX8_clause_30 : zF RX8 wsX8_clause 30 8 9 := ⟨_, TX8, _, rfl, by decide +kernel, by decide +kernel, by decide, rfl⟩
theorem flX8_clause_33 : zF RX8 wsX8_clause 33 8 10 := ⟨_, TX8, _, rfl, by decide +kernel, by decide +kernel, by decide, rfl⟩
set_option maxHeartbeats 4000000 in
set_option maxRecDepth 100000 in
theorem ctX8_clause (l : Launch) (D : va_G) (cs : Nat → ClassId) (α : Nat → Nat) (N : Nat) (M : zM) (a1 : Int) (M' : zM) (hF : fX8_clause N a1 M = some M') : Met l yX8_clause wsX8_clause ({ frames := 3, cells := 0, slots := 0, locals := 66 }) (zPre D cs LM α M [.ref (α 0), .int (nZ a1)]) (zQv D cs LM α M') 0 0 (zA LM.length α) := by
  refine z_met (cc := cX8_clause) (maxL := 5) (ret := none) (by decide +kernel) rfl RX8 rfl (Nat.le_of_ble_eq_true rfl) ?_
  intro p e s m below meth c ls hX hr hlocks hH hl
  have hx := hX.1.1
  have hb := hX.1.2.1
  have hts := hX.1.2.2.2.2
  have J142 : ∀ (x1 : Int) (x2 : Int) (x3 : Int) (x4 : Int) (M0 : zM), sX8_clause_142 N x1 x2 x3 x4 M0 = some M' → zGo p l e (headSpec wsX8_clause ({ frames := 3, cells := 0, slots := 0, locals := 66 })).room s m ([.ref (α 0), .int (nZ a1)] : List Value).toArray below meth c (MQ below (zQv D cs LM α M') ([.ref (α 0), .int (nZ a1)] : List Value).toArray s 0 0 (zA LM.length α)) D cs LM α (zA LM.length α) 5 142 [(0, .ref (α 0)), (1, .int (nZ x1)), (2, .int (nZ x2)), (3, .int (nZ x3)), (4, .int (nZ x4))] [] M0 := by
    intro x1 x2 x3 x4 M0 hF H locs ls hH hl
    unfold sX8_clause_142 at hF
    refine lv_aload_n hx hb dX8_clause_142 rfl (lv_at hl 0 rfl) ?_
    refine z_getr hX hH 0 8 6 rfl rfl flX8_clause_27 dX8_clause_143 ?_
    refine lv_iload_n hx hb dX8_clause_146 rfl (lv_at hl 1 rfl) ?_
    refine lv_iload_n hx hb dX8_clause_147 rfl (lv_at hl 2 rfl) ?_
    obtain ⟨h22, hF⟩ := zg_e hF
    obtain ⟨M23, eM23, hF⟩ := zl_e hF
    refine z_iast hX hH 6 120 eM23 rfl h22 (by decide) dX8_clause_148 (fun H locs hH => ?_)
    refine lv_aload_n hx hb dX8_clause_149 rfl (lv_at hl 0 rfl) ?_
    refine z_getr hX hH 0 9 7 rfl rfl flX8_clause_30 dX8_clause_150 ?_
    refine lv_iload_n hx hb dX8_clause_153 rfl (lv_at hl 1 rfl) ?_
    refine z_bipush (v := 100) hx hb dX8_clause_154 (by decide +kernel) ?_
    refine lv_iload_n hx hb dX8_clause_156 rfl (lv_at hl 3 rfl) ?_
    refine z_imul hx hb dX8_clause_157 ?_
    refine lv_iload hx hb dX8_clause_158 (lv_at hl 4 rfl) ?_
    refine z_iadd hx hb dX8_clause_160 ?_
    obtain ⟨M24, eM24, hF⟩ := zl_e hF
    refine z_iast hX hH 7 120 eM24 rfl h22 (by decide) dX8_clause_161 (fun H locs hH => ?_)
    exact z_vret hX hr hlocks hH hF dX8_clause_162
  have J108 : ∀ (x1 : Int) (x2 : Int) (x3 : Int) (y0 : Int) (M0 : zM), sX8_clause_108 N x1 x2 x3 y0 M0 = some M' → zGo p l e (headSpec wsX8_clause ({ frames := 3, cells := 0, slots := 0, locals := 66 })).room s m ([.ref (α 0), .int (nZ a1)] : List Value).toArray below meth c (MQ below (zQv D cs LM α M') ([.ref (α 0), .int (nZ a1)] : List Value).toArray s 0 0 (zA LM.length α)) D cs LM α (zA LM.length α) 5 108 [(0, .ref (α 0)), (1, .int (nZ x1)), (2, .int (nZ x2)), (3, .int (nZ x3))] [.int (nZ y0)] M0 := by
    intro x1 x2 x3 y0 M0 hF H locs ls hH hl
    unfold sX8_clause_108 at hF
    obtain ⟨v20, ev20, hF⟩ := zl_e hF
    refine z_istore ev20 (lv' := [(4, .int (nZ v20)), (0, .ref (α 0)), (1, .int (nZ x1)), (2, .int (nZ x2)), (3, .int (nZ x3))]) hx hb dX8_clause_108 hl (by decide) rfl (fun ls hl => ?_)
    refine lv_iload_n hx hb dX8_clause_110 rfl (lv_at hl 3 rfl) ?_
    refine z_bipush (v := 112) hx hb dX8_clause_111 (by decide +kernel) ?_
    obtain ⟨h21, hF⟩ := zg_e hF
    refine z_icmp_ne (tgt := 142) hx hb h21 (by decide) dX8_clause_113 (by decide) (fun hc => ?_) (fun hc => ?_)
    · have hF := zi_f hF hc
      exact J142 x1 x2 x3 v20 M0 hF _ _ _ hH (lv_sub hl [1, 2, 3, 4, 0] rfl)
    · have hF := zi_t hF hc
      refine lv_aload_n hx hb dX8_clause_116 rfl (lv_at hl 1 rfl) ?_
      refine z_bipush (v := 61) hx hb dX8_clause_117 (by decide +kernel) ?_
      refine z_bipush (v := 61) hx hb dX8_clause_119 (by decide +kernel) ?_
      obtain ⟨r27, M26, c25, hF⟩ := zc2_e hF
      refine z_sameVi (As := [.int (nZ (61:Int)), .int (nZ (61:Int))]) hX hH 0 8 (ctX8_must l D cs α N M0 (61:Int) (61:Int) r27 M26 c25) (cwV 2 hts gX8_clause_X8_must rfl rfl rfl (by decide +kernel) ⟨Nat.le_of_ble_eq_true rfl, Nat.le_of_ble_eq_true rfl⟩) rfl rfl rfl hl.1 (Nat.le_of_ble_eq_true rfl) rfl dX8_clause_121 ⟨Nat.zero_le _, Nat.zero_le _⟩ (fun H locs hH => ?_)
      refine lv_pop hx hb dX8_clause_124 rfl ?_
      refine lv_aload_n hx hb dX8_clause_125 rfl (lv_at hl 1 rfl) ?_
      refine z_getr hX hH 0 10 8 rfl rfl flX8_clause_33 dX8_clause_126 ?_
      refine lv_iload_n hx hb dX8_clause_129 rfl (lv_at hl 2 rfl) ?_
      refine lv_aload_n hx hb dX8_clause_130 rfl (lv_at hl 1 rfl) ?_
      refine z_bipush (v := 49) hx hb dX8_clause_131 (by decide +kernel) ?_
      refine z_bipush (v := 57) hx hb dX8_clause_133 (by decide +kernel) ?_
      obtain ⟨r30, M29, c28, hF⟩ := zc2_e hF
      refine z_sameVi (As := [.int (nZ (49:Int)), .int (nZ (57:Int))]) hX hH 0 8 (ctX8_must l D cs α N M26 (49:Int) (57:Int) r30 M29 c28) (cwV 2 hts gX8_clause_X8_must rfl rfl rfl (by decide +kernel) ⟨Nat.le_of_ble_eq_true rfl, Nat.le_of_ble_eq_true rfl⟩) rfl rfl rfl hl.1 (Nat.le_of_ble_eq_true rfl) rfl dX8_clause_135 ⟨Nat.zero_le _, Nat.zero_le _⟩ (fun H locs hH => ?_)
      refine z_bipush (v := 48) hx hb dX8_clause_138 (by decide +kernel) ?_
      refine z_isub hx hb dX8_clause_140 ?_
      obtain ⟨h31, hF⟩ := zg_e hF
      obtain ⟨M32, eM32, hF⟩ := zl_e hF
      refine z_iast hX hH 8 120 eM32 rfl h31 (by decide) dX8_clause_141 (fun H locs hH => ?_)
      exact J142 x1 x2 x3 v20 M32 hF _ _ _ hH (lv_sub hl [1, 2, 3, 4, 0] rfl)
  have J49 : ∀ (x1 : Int) (y0 : Int) (M0 : zM), sX8_clause_49 N x1 y0 M0 = some M' → zGo p l e (headSpec wsX8_clause ({ frames := 3, cells := 0, slots := 0, locals := 66 })).room s m ([.ref (α 0), .int (nZ a1)] : List Value).toArray below meth c (MQ below (zQv D cs LM α M') ([.ref (α 0), .int (nZ a1)] : List Value).toArray s 0 0 (zA LM.length α)) D cs LM α (zA LM.length α) 5 49 [(0, .ref (α 0)), (1, .int (nZ x1))] [.int (nZ y0)] M0 := by
    intro x1 y0 M0 hF H locs ls hH hl
    unfold sX8_clause_49 at hF
    obtain ⟨v7, ev7, hF⟩ := zl_e hF
    refine z_istore_n ev7 (lv' := [(2, .int (nZ v7)), (0, .ref (α 0)), (1, .int (nZ x1))]) hx hb dX8_clause_49 rfl hl (by decide) rfl (fun ls hl => ?_)
    refine lv_aload_n hx hb dX8_clause_50 rfl (lv_at hl 1 rfl) ?_
    refine z_bipush (v := 97) hx hb dX8_clause_51 (by decide +kernel) ?_
    refine z_bipush (v := 100) hx hb dX8_clause_53 (by decide +kernel) ?_
    obtain ⟨r10, M9, c8, hF⟩ := zc2_e hF
    refine z_sameVi (As := [.int (nZ (97:Int)), .int (nZ (100:Int))]) hX hH 0 8 (ctX8_must l D cs α N M0 (97:Int) (100:Int) r10 M9 c8) (cwV 2 hts gX8_clause_X8_must rfl rfl rfl (by decide +kernel) ⟨Nat.le_of_ble_eq_true rfl, Nat.le_of_ble_eq_true rfl⟩) rfl rfl rfl hl.1 (Nat.le_of_ble_eq_true rfl) rfl dX8_clause_55 ⟨Nat.zero_le _, Nat.zero_le _⟩ (fun H locs hH => ?_)
    refine z_bipush (v := 97) hx hb dX8_clause_58 (by decide +kernel) ?_
    refine z_isub hx hb dX8_clause_60 ?_
    obtain ⟨v11, ev11, hF⟩ := zl_e hF
    refine z_istore_n ev11 (lv' := [(3, .int (nZ v11)), (2, .int (nZ v7)), (0, .ref (α 0)), (1, .int (nZ x1))]) hx hb dX8_clause_61 rfl hl (by decide) rfl (fun ls hl => ?_)
    refine lv_aload_n hx hb dX8_clause_62 rfl (lv_at hl 2 rfl) ?_
    refine z_bipush (v := 48) hx hb dX8_clause_63 (by decide +kernel) ?_
    refine z_bipush (v := 57) hx hb dX8_clause_65 (by decide +kernel) ?_
    obtain ⟨r14, M13, c12, hF⟩ := zc2_e hF
    refine z_sameVi (As := [.int (nZ (48:Int)), .int (nZ (57:Int))]) hX hH 0 8 (ctX8_must l D cs α N M9 (48:Int) (57:Int) r14 M13 c12) (cwV 2 hts gX8_clause_X8_must rfl rfl rfl (by decide +kernel) ⟨Nat.le_of_ble_eq_true rfl, Nat.le_of_ble_eq_true rfl⟩) rfl rfl rfl hl.1 (Nat.le_of_ble_eq_true rfl) rfl dX8_clause_67 ⟨Nat.zero_le _, Nat.zero_le _⟩ (fun H locs hH => ?_)
    refine z_bipush (v := 48) hx hb dX8_clause_70 (by decide +kernel) ?_
    refine z_isub hx hb dX8_clause_72 ?_
    obtain ⟨v15, ev15, hF⟩ := zl_e hF
    refine z_istore ev15 (lv' := [(4, .int (nZ v15)), (3, .int (nZ v11)), (2, .int (nZ v7)), (0, .ref (α 0)), (1, .int (nZ x1))]) hx hb dX8_clause_73 hl (by decide) rfl (fun ls hl => ?_)
    refine lv_aload_n hx hb dX8_clause_75 rfl (lv_at hl 3 rfl) ?_
    refine z_bipush (v := 48) hx hb dX8_clause_76 (by decide +kernel) ?_
    refine z_bipush (v := 57) hx hb dX8_clause_78 (by decide +kernel) ?_
    obtain ⟨r18, M17, c16, hF⟩ := zc2_e hF
    refine z_sameVi (As := [.int (nZ (48:Int)), .int (nZ (57:Int))]) hX hH 0 8 (ctX8_sees l D cs α N M13 (48:Int) (57:Int) r18 M17 c16) (cwV 2 hts gX8_clause_X8_sees rfl rfl rfl (by decide +kernel) ⟨Nat.le_of_ble_eq_true rfl, Nat.le_of_ble_eq_true rfl⟩) rfl rfl rfl hl.1 (Nat.le_of_ble_eq_true rfl) rfl dX8_clause_80 ⟨Nat.zero_le _, Nat.zero_le _⟩ (fun H locs hH => ?_)
    obtain ⟨h19, hF⟩ := zg_e hF
    refine z_if_eq (tgt := 106) hx hb h19 dX8_clause_83 (by decide) (fun hc => ?_) (fun hc => ?_)
    · have hF := zi_t hF hc
      refine lv_iload hx hb dX8_clause_106 (lv_at hl 0 rfl) ?_
      exact J108 x1 v7 v11 v15 M17 hF _ _ _ hH (lv_sub hl [3, 4, 2, 1] rfl)
    · have hF := zi_f hF hc
      refine z_bipush (v := 10) hx hb dX8_clause_86 (by decide +kernel) ?_
      refine lv_iload hx hb dX8_clause_88 (lv_at hl 0 rfl) ?_
      refine z_imul hx hb dX8_clause_90 ?_
      refine lv_aload_n hx hb dX8_clause_91 rfl (lv_at hl 3 rfl) ?_
      refine z_bipush (v := 48) hx hb dX8_clause_92 (by decide +kernel) ?_
      refine z_bipush (v := 57) hx hb dX8_clause_94 (by decide +kernel) ?_
      obtain ⟨r35, M34, c33, hF⟩ := zc2_e hF
      refine z_sameVi (As := [.int (nZ (48:Int)), .int (nZ (57:Int))]) hX hH 0 8 (ctX8_must l D cs α N M17 (48:Int) (57:Int) r35 M34 c33) (cwV 2 hts gX8_clause_X8_must rfl rfl rfl (by decide +kernel) ⟨Nat.le_of_ble_eq_true rfl, Nat.le_of_ble_eq_true rfl⟩) rfl rfl rfl hl.1 (Nat.le_of_ble_eq_true rfl) rfl dX8_clause_96 ⟨Nat.zero_le _, Nat.zero_le _⟩ (fun H locs hH => ?_)
      refine z_iadd hx hb dX8_clause_99 ?_
      refine z_bipush (v := 48) hx hb dX8_clause_100 (by decide +kernel) ?_
      refine z_isub hx hb dX8_clause_102 ?_
      refine lv_goto (tgt := 108) hx hb dX8_clause_103 (by decide) ?_
      exact J108 x1 v7 v11 ((((10:Int) * v15) + r35) - (48:Int)) M34 hF _ _ _ hH (lv_sub hl [3, 4, 2, 1] rfl)
  have J22 : ∀ (x1 : Int) (M0 : zM), sX8_clause_22 N x1 M0 = some M' → zGo p l e (headSpec wsX8_clause ({ frames := 3, cells := 0, slots := 0, locals := 66 })).room s m ([.ref (α 0), .int (nZ a1)] : List Value).toArray below meth c (MQ below (zQv D cs LM α M') ([.ref (α 0), .int (nZ a1)] : List Value).toArray s 0 0 (zA LM.length α)) D cs LM α (zA LM.length α) 5 22 [(0, .ref (α 0)), (1, .int (nZ x1))] [] M0 := by
    intro x1 M0 hF H locs ls hH hl
    unfold sX8_clause_22 at hF
    refine lv_aload_n hx hb dX8_clause_22 rfl (lv_at hl 0 rfl) ?_
    refine z_getr hX hH 0 6 5 rfl rfl flX8_clause_24 dX8_clause_23 ?_
    refine lv_aload_n hx hb dX8_clause_26 rfl (lv_at hl 0 rfl) ?_
    refine lv_dup hx hb dX8_clause_27 rfl ?_
    refine z_geti hX hH 0 17 rfl rfl flX8_clause_130 dX8_clause_28 ?_
    refine lv_dup_x1 hx hb dX8_clause_31 rfl rfl ?_
    refine z_iconst hx hb dX8_clause_32 ?_
    refine z_iadd hx hb dX8_clause_33 ?_
    obtain ⟨M5, eM5, hF⟩ := zl_e hF
    refine z_put hX hH 0 17 eM5 rfl rfl fpX8_clause_130 rfl rfl dX8_clause_34 (fun H locs hH => ?_)
    obtain ⟨h6, hF⟩ := zg_e hF
    refine z_iald hX hH 5 100 rfl h6 (by decide) dX8_clause_37 ?_
    refine lv_goto (tgt := 49) hx hb dX8_clause_38 (by decide) ?_
    exact J49 x1 (M5 5 (M0 0 17).toNat) M5 hF _ _ _ hH (lv_sub hl [0, 1] rfl)
  have hl : lv_has ls 5 [(0, .ref (α 0)), (1, .int (nZ a1))] := hl
  unfold fX8_clause at hF
  refine lv_aload_n hx hb dX8_clause_0 rfl (lv_at hl 0 rfl) ?_
  refine z_bipush (v := 112) hx hb dX8_clause_1 (by decide +kernel) ?_
  refine z_bipush (v := 112) hx hb dX8_clause_3 (by decide +kernel) ?_
  obtain ⟨r3, M2, c1, hF⟩ := zc2_e hF
  refine z_sameVi (As := [.int (nZ (112:Int)), .int (nZ (112:Int))]) hX hH 0 8 (ctX8_sees l D cs α N M (112:Int) (112:Int) r3 M2 c1) (cwV 2 hts gX8_clause_X8_sees rfl rfl rfl (by decide +kernel) ⟨Nat.le_of_ble_eq_true rfl, Nat.le_of_ble_eq_true rfl⟩) rfl rfl rfl hl.1 (Nat.le_of_ble_eq_true rfl) rfl dX8_clause_5 ⟨Nat.zero_le _, Nat.zero_le _⟩ (fun H locs hH => ?_)
  obtain ⟨h4, hF⟩ := zg_e hF
  refine z_if_ne (tgt := 22) hx hb h4 dX8_clause_8 (by decide) (fun hc => ?_) (fun hc => ?_)
  · have hF := zi_f hF hc
    exact J22 a1 M2 hF _ _ _ hH (lv_sub hl [0, 1] rfl)
  · have hF := zi_t hF hc
    refine lv_aload_n hx hb dX8_clause_11 rfl (lv_at hl 0 rfl) ?_
    refine z_bipush (v := 120) hx hb dX8_clause_12 (by decide +kernel) ?_
    refine z_bipush (v := 120) hx hb dX8_clause_14 (by decide +kernel) ?_
    obtain ⟨r38, M37, c36, hF⟩ := zc2_e hF
    refine z_sameVi (As := [.int (nZ (120:Int)), .int (nZ (120:Int))]) hX hH 0 8 (ctX8_sees l D cs α N M2 (120:Int) (120:Int) r38 M37 c36) (cwV 2 hts gX8_clause_X8_sees rfl rfl rfl (by decide +kernel) ⟨Nat.le_of_ble_eq_true rfl, Nat.le_of_ble_eq_true rfl⟩) rfl rfl rfl hl.1 (Nat.le_of_ble_eq_true rfl) rfl dX8_clause_16 ⟨Nat.zero_le _, Nat.zero_le _⟩ (fun H locs hH => ?_)
    obtain ⟨h39, hF⟩ := zg_e hF
    refine z_if_eq (tgt := 41) hx hb h39 dX8_clause_19 (by decide) (fun hc => ?_) (fun hc => ?_)
    · have hF := zi_t hF hc
      refine lv_aload_n hx hb dX8_clause_41 rfl (lv_at hl 0 rfl) ?_
      refine z_bipush (v := 103) hx hb dX8_clause_42 (by decide +kernel) ?_
      refine z_bipush (v := 103) hx hb dX8_clause_44 (by decide +kernel) ?_
      obtain ⟨r42, M41, c40, hF⟩ := zc2_e hF
      refine z_sameVi (As := [.int (nZ (103:Int)), .int (nZ (103:Int))]) hX hH 0 8 (ctX8_must l D cs α N M37 (103:Int) (103:Int) r42 M41 c40) (cwV 2 hts gX8_clause_X8_must rfl rfl rfl (by decide +kernel) ⟨Nat.le_of_ble_eq_true rfl, Nat.le_of_ble_eq_true rfl⟩) rfl rfl rfl hl.1 (Nat.le_of_ble_eq_true rfl) rfl dX8_clause_46 ⟨Nat.zero_le _, Nat.zero_le _⟩ (fun H locs hH => ?_)
      exact J49 a1 r42 M41 hF _ _ _ hH (lv_sub hl [0, 1] rfl)
    · have hF := zi_f hF hc
      exact J22 a1 M37 hF _ _ _ hH (lv_sub hl [0, 1] rfl)
theorem flX8_trace_139 : zF RX8 wsX8_trace 139 8 12 := ⟨_, TX8, _, rfl, by decide +kernel, by decide +kernel, by decide, rfl⟩
theorem fpX8_trace_130 : zFp RX8 wsX8_trace 130 8 17 .int := ⟨_, TX8, _, tyX8, rfl, by decide +kernel, by decide +kernel, by decide, rfl, tyX8_ok, nmX8, rfl, by decide +kernel⟩
theorem fpX8_trace_127 : zFp RX8 wsX8_trace 127 8 18 .int := ⟨_, TX8, _, tyX8, rfl, by decide +kernel, by decide +kernel, by decide, rfl, tyX8_ok, nmX8, rfl, by decide +kernel⟩
theorem flX8_trace_127 : zF RX8 wsX8_trace 127 8 18 := ⟨_, TX8, _, rfl, by decide +kernel, by decide +kernel, by decide, rfl⟩
theorem fpX8_trace_124 : zFp RX8 wsX8_trace 124 8 7 .int := ⟨_, TX8, _, tyX8, rfl, by decide +kernel, by decide +kernel, by decide, rfl, tyX8_ok, nmX8, rfl, by decide +kernel⟩
theorem flX8_trace_36 : zF RX8 wsX8_trace 36 8 11 := ⟨_, TX8, _, rfl, by decide +kernel, by decide +kernel, by decide, rfl⟩
theorem fpX8_trace_139 : zFp RX8 wsX8_trace 139 8 12 .int := ⟨_, TX8, _, tyX8, rfl, by decide +kernel, by decide +kernel, by decide, rfl, tyX8_ok, nmX8, rfl, by decide +kernel⟩
theorem flX8_trace_130 : zF RX8 wsX8_trace 130 8 17 := ⟨_, TX8, _, rfl, by decide +kernel, by decide +kernel, by decide, rfl⟩
theorem flX8_trace_124 : zF RX8 wsX8_trace 124 8 7 := ⟨_, TX8, _, rfl, by decide +kernel, by decide +kernel, by decide, rfl⟩
set_option maxHeartbeats 4000000 in
set_option maxRecDepth 100000 in
theorem ctX8_trace (l : Launch) (D : va_G) (cs : Nat → ClassId) (α : Nat → Nat) (N : Nat) (M : zM) (r : Int) (M' : zM) (hF : fX8_trace N M = some (r, M')) : Met l yX8_trace wsX8_trace ({ frames := 4, cells := 0, slots := 0, locals := 90 }) (zPre D cs LM α M [.ref (α 0)]) (zQi D cs LM α r M') 0 0 (zA LM.length α) := by
  refine z_met (cc := cX8_trace) (maxL := 2) (ret := (some .int)) (by decide +kernel) rfl RX8 rfl (Nat.le_of_ble_eq_true rfl) ?_
  intro p e s m below meth c ls hX hr hlocks hH hl
  have hx := hX.1.1
  have hb := hX.1.2.1
  have hts := hX.1.2.2.2.2
  have J101 : ∀ (x1 : Int) (M0 : zM), sX8_trace_101 N x1 M0 = some (r, M') → zGo p l e (headSpec wsX8_trace ({ frames := 4, cells := 0, slots := 0, locals := 90 })).room s m ([.ref (α 0)] : List Value).toArray below meth c (MQ below (zQi D cs LM α r M') ([.ref (α 0)] : List Value).toArray s 0 0 (zA LM.length α)) D cs LM α (zA LM.length α) 2 101 [(0, .ref (α 0)), (1, .int (nZ x1))] [] M0 := by
    intro x1 M0 hF H locs ls hH hl
    unfold sX8_trace_101 at hF
    refine lv_aload_n hx hb dX8_trace_101 rfl (lv_at hl 0 rfl) ?_
    refine z_iconst hx hb dX8_trace_102 ?_
    obtain ⟨M9, eM9, hF⟩ := zl_e hF
    refine z_put hX hH 0 7 eM9 rfl rfl fpX8_trace_124 rfl rfl dX8_trace_103 (fun H locs hH => ?_)
    refine lv_aload_n hx hb dX8_trace_106 rfl (lv_at hl 0 rfl) ?_
    refine z_geti hX hH 0 18 rfl rfl flX8_trace_127 dX8_trace_107 ?_
    obtain ⟨h10, hF⟩ := zg_e hF
    refine z_if_lt (tgt := 121) hx hb h10 dX8_trace_110 (by decide) (fun hc => ?_) (fun hc => ?_)
    · have hF := zi_t hF hc
      refine lv_aload_n hx hb dX8_trace_121 rfl (lv_at hl 0 rfl) ?_
      refine z_getr hX hH 0 11 9 rfl rfl flX8_trace_36 dX8_trace_122 ?_
      refine lv_aload_n hx hb dX8_trace_125 rfl (lv_at hl 0 rfl) ?_
      refine z_geti hX hH 0 12 rfl rfl flX8_trace_139 dX8_trace_126 ?_
      refine lv_iload_n hx hb dX8_trace_129 rfl (lv_at hl 1 rfl) ?_
      obtain ⟨h11, hF⟩ := zg_e hF
      obtain ⟨M12, eM12, hF⟩ := zl_e hF
      refine z_iast hX hH 9 6 eM12 rfl h11 (by decide) dX8_trace_130 (fun H locs hH => ?_)
      refine lv_aload_n hx hb dX8_trace_131 rfl (lv_at hl 0 rfl) ?_
      refine lv_dup hx hb dX8_trace_132 rfl ?_
      refine z_geti hX hH 0 12 rfl rfl flX8_trace_139 dX8_trace_133 ?_
      refine lv_dup_x1 hx hb dX8_trace_136 rfl rfl ?_
      refine z_iconst hx hb dX8_trace_137 ?_
      refine z_iadd hx hb dX8_trace_138 ?_
      obtain ⟨M13, eM13, hF⟩ := zl_e hF
      refine z_put hX hH 0 12 eM13 rfl rfl fpX8_trace_139 rfl rfl dX8_trace_139 (fun H locs hH => ?_)
      exact z_iret hX hr hlocks hH hF rfl dX8_trace_142
    · have hF := zi_f hF hc
      refine z_bipush (v := -10) hx hb dX8_trace_113 (by decide +kernel) ?_
      refine lv_aload_n hx hb dX8_trace_115 rfl (lv_at hl 0 rfl) ?_
      refine z_geti hX hH 0 18 rfl rfl flX8_trace_127 dX8_trace_116 ?_
      refine z_isub hx hb dX8_trace_119 ?_
      exact z_iret hX hr hlocks hH hF rfl dX8_trace_120
  have L38 : ∀ (n : Nat) (x1 : Int) (M0 : zM), fX8_trace_38 N n x1 M0 = some (r, M') → zGo p l e (headSpec wsX8_trace ({ frames := 4, cells := 0, slots := 0, locals := 90 })).room s m ([.ref (α 0)] : List Value).toArray below meth c (MQ below (zQi D cs LM α r M') ([.ref (α 0)] : List Value).toArray s 0 0 (zA LM.length α)) D cs LM α (zA LM.length α) 2 38 [(0, .ref (α 0)), (1, .int (nZ x1))] [] M0 := by
    intro  n
    induction n with
    | zero =>
      intro x1 M0 hF
      have hF : (none : Option (Int × zM)) = some (r, M') := hF
      cases hF
    | succ n hk38 =>
      intro x1 M0 hF H locs ls hH hl
      have hF : sX8_trace_38 N (fun x1 M0 => fX8_trace_38 N n x1 M0) x1 M0 = some (r, M') := hF
      unfold sX8_trace_38 at hF
      refine lv_aload_n hx hb dX8_trace_38 rfl (lv_at hl 0 rfl) ?_
      refine z_geti hX hH 0 18 rfl rfl flX8_trace_127 dX8_trace_39 ?_
      obtain ⟨h8, hF⟩ := zg_e hF
      refine z_if_ge (tgt := 101) hx hb h8 dX8_trace_42 (by decide) (fun hc => ?_) (fun hc => ?_)
      · have hF := zi_t hF hc
        exact J101 x1 M0 hF _ _ _ hH (lv_sub hl [0, 1] rfl)
      · have hF := zi_f hF hc
        refine lv_aload_n hx hb dX8_trace_45 rfl (lv_at hl 0 rfl) ?_
        refine z_geti hX hH 0 17 rfl rfl flX8_trace_130 dX8_trace_46 ?_
        refine lv_aload_n hx hb dX8_trace_49 rfl (lv_at hl 0 rfl) ?_
        refine z_geti hX hH 0 7 rfl rfl flX8_trace_124 dX8_trace_50 ?_
        obtain ⟨h14, hF⟩ := zg_e hF
        obtain ⟨h15, hF⟩ := zg_e hF
        refine z_icmp_ge (tgt := 101) hx hb h14 h15 dX8_trace_53 (by decide) (fun hc => ?_) (fun hc => ?_)
        · have hF := zi_t hF hc
          exact J101 x1 M0 hF _ _ _ hH (lv_sub hl [0, 1] rfl)
        · have hF := zi_f hF hc
          refine lv_iload_n hx hb dX8_trace_56 rfl (lv_at hl 1 rfl) ?_
          refine z_bipush (v := 20) hx hb dX8_trace_57 (by decide +kernel) ?_
          obtain ⟨h16, hF⟩ := zg_e hF
          refine z_icmp_ne (tgt := 73) hx hb h16 (by decide) dX8_trace_59 (by decide) (fun hc => ?_) (fun hc => ?_)
          · have hF := zi_f hF hc
            refine lv_aload_n hx hb dX8_trace_73 rfl (lv_at hl 0 rfl) ?_
            refine z_bipush (v := 59) hx hb dX8_trace_74 (by decide +kernel) ?_
            refine z_bipush (v := 59) hx hb dX8_trace_76 (by decide +kernel) ?_
            obtain ⟨r19, M18, c17, hF⟩ := zc2_e hF
            refine z_sameVi (As := [.int (nZ (59:Int)), .int (nZ (59:Int))]) hX hH 0 8 (ctX8_must l D cs α N M0 (59:Int) (59:Int) r19 M18 c17) (cwV 2 hts gX8_trace_X8_must rfl rfl rfl (by decide +kernel) ⟨Nat.le_of_ble_eq_true rfl, Nat.le_of_ble_eq_true rfl⟩) rfl rfl rfl hl.1 (Nat.le_of_ble_eq_true rfl) rfl dX8_trace_78 ⟨Nat.zero_le _, Nat.zero_le _⟩ (fun H locs hH => ?_)
            refine lv_pop hx hb dX8_trace_81 rfl ?_
            refine lv_aload_n hx hb dX8_trace_82 rfl (lv_at hl 0 rfl) ?_
            refine lv_aload_n hx hb dX8_trace_83 rfl (lv_at hl 0 rfl) ?_
            refine z_geti hX hH 0 12 rfl rfl flX8_trace_139 dX8_trace_84 ?_
            refine z_bipush (v := 20) hx hb dX8_trace_87 (by decide +kernel) ?_
            refine z_imul hx hb dX8_trace_89 ?_
            refine lv_iload_n hx hb dX8_trace_90 rfl (lv_at hl 1 rfl) ?_
            refine z_iadd hx hb dX8_trace_91 ?_
            obtain ⟨M21, c20, hF⟩ := zc_e hF
            refine z_sameVv (As := [.int (nZ (((M18 0 12) * (20:Int)) + x1))]) hX hH 0 8 (ctX8_clause l D cs α N M18 (((M18 0 12) * (20:Int)) + x1) M21 c20) (cwV 1 hts gX8_trace_X8_clause rfl rfl rfl (by decide +kernel) ⟨Nat.le_of_ble_eq_true rfl, Nat.le_of_ble_eq_true rfl⟩) rfl rfl rfl hl.1 (Nat.le_of_ble_eq_true rfl) rfl dX8_trace_92 ⟨Nat.zero_le _, Nat.zero_le _⟩ (fun H locs hH => ?_)
            obtain ⟨v22, ev22, hF⟩ := zl_e hF
            refine z_iinc ev22 (lv' := [(1, .int (nZ v22)), (0, .ref (α 0))]) hx hb dX8_trace_95 hl (k := 1) rfl (by decide) rfl (fun ls hl => ?_)
            refine lv_goto (tgt := 38) hx hb dX8_trace_98 (by decide) ?_
            exact hk38 v22 M21 hF _ _ _ hH (lv_sub hl [1, 0] rfl)
          · have hF := zi_t hF hc
            refine lv_aload_n hx hb dX8_trace_62 rfl (lv_at hl 0 rfl) ?_
            refine lv_aload_n hx hb dX8_trace_63 rfl (lv_at hl 0 rfl) ?_
            refine z_geti hX hH 0 17 rfl rfl flX8_trace_130 dX8_trace_64 ?_
            obtain ⟨M23, eM23, hF⟩ := zl_e hF
            refine z_put hX hH 0 18 eM23 rfl rfl fpX8_trace_127 rfl rfl dX8_trace_67 (fun H locs hH => ?_)
            refine lv_goto (tgt := 38) hx hb dX8_trace_70 (by decide) ?_
            exact hk38 x1 M23 hF _ _ _ hH (lv_sub hl [0, 1] rfl)
  have hl : lv_has ls 2 [(0, .ref (α 0))] := hl
  unfold fX8_trace at hF
  refine lv_aload_n hx hb dX8_trace_0 rfl (lv_at hl 0 rfl) ?_
  refine z_geti hX hH 0 12 rfl rfl flX8_trace_139 dX8_trace_1 ?_
  refine z_bipush (v := 6) hx hb dX8_trace_4 (by decide +kernel) ?_
  obtain ⟨h1, hF⟩ := zg_e hF
  refine z_icmp_ne (tgt := 12) hx hb h1 (by decide) dX8_trace_6 (by decide) (fun hc => ?_) (fun hc => ?_)
  · have hF := zi_f hF hc
    refine lv_aload_n hx hb dX8_trace_12 rfl (lv_at hl 0 rfl) ?_
    refine z_iconst hx hb dX8_trace_13 ?_
    obtain ⟨M2, eM2, hF⟩ := zl_e hF
    refine z_put hX hH 0 17 eM2 rfl rfl fpX8_trace_130 rfl rfl dX8_trace_14 (fun H locs hH => ?_)
    refine lv_aload_n hx hb dX8_trace_17 rfl (lv_at hl 0 rfl) ?_
    refine z_iconst hx hb dX8_trace_18 ?_
    obtain ⟨M3, eM3, hF⟩ := zl_e hF
    refine z_put hX hH 0 18 eM3 rfl rfl fpX8_trace_127 rfl rfl dX8_trace_19 (fun H locs hH => ?_)
    refine z_iconst hx hb dX8_trace_22 ?_
    obtain ⟨v4, ev4, hF⟩ := zl_e hF
    refine z_istore_n ev4 (lv' := [(1, .int (nZ v4)), (0, .ref (α 0))]) hx hb dX8_trace_23 rfl hl (by decide) rfl (fun ls hl => ?_)
    refine lv_aload_n hx hb dX8_trace_24 rfl (lv_at hl 1 rfl) ?_
    refine lv_aload_n hx hb dX8_trace_25 rfl (lv_at hl 1 rfl) ?_
    refine z_geti hX hH 0 12 rfl rfl flX8_trace_139 dX8_trace_26 ?_
    refine z_bipush (v := 20) hx hb dX8_trace_29 (by decide +kernel) ?_
    refine z_imul hx hb dX8_trace_31 ?_
    obtain ⟨M6, c5, hF⟩ := zc_e hF
    refine z_sameVv (As := [.int (nZ ((M3 0 12) * (20:Int)))]) hX hH 0 8 (ctX8_clause l D cs α N M3 ((M3 0 12) * (20:Int)) M6 c5) (cwV 1 hts gX8_trace_X8_clause rfl rfl rfl (by decide +kernel) ⟨Nat.le_of_ble_eq_true rfl, Nat.le_of_ble_eq_true rfl⟩) rfl rfl rfl hl.1 (Nat.le_of_ble_eq_true rfl) rfl dX8_trace_32 ⟨Nat.zero_le _, Nat.zero_le _⟩ (fun H locs hH => ?_)
    obtain ⟨v7, ev7, hF⟩ := zl_e hF
    refine z_iinc ev7 (lv' := [(1, .int (nZ v7)), (0, .ref (α 0))]) hx hb dX8_trace_35 hl (k := 0) rfl (by decide) rfl (fun ls hl => ?_)
    exact L38 N v7 M6 hF _ _ _ hH (lv_sub hl [1, 0] rfl)
  · have hF := zi_t hF hc
    refine z_bipush (v := -4) hx hb dX8_trace_9 (by decide +kernel) ?_
    exact z_iret hX hr hlocks hH hF rfl dX8_trace_11
theorem flX8_runs_11 : zF RX8 wsX8_runs 11 8 0 := ⟨_, TX8, _, rfl, by decide +kernel, by decide +kernel, by decide, rfl⟩
theorem flX8_runs_36 : zF RX8 wsX8_runs 36 8 11 := ⟨_, TX8, _, rfl, by decide +kernel, by decide +kernel, by decide, rfl⟩
theorem flX8_runs_27 : zF RX8 wsX8_runs 27 8 8 := ⟨_, TX8, _, rfl, by decide +kernel, by decide +kernel, by decide, rfl⟩
theorem flX8_runs_33 : zF RX8 wsX8_runs 33 8 10 := ⟨_, TX8, _, rfl, by decide +kernel, by decide +kernel, by decide, rfl⟩
theorem flX8_runs_30 : zF RX8 wsX8_runs 30 8 9 := ⟨_, TX8, _, rfl, by decide +kernel, by decide +kernel, by decide, rfl⟩
set_option maxHeartbeats 4000000 in
set_option maxRecDepth 100000 in
theorem ctX8_runs (l : Launch) (D : va_G) (cs : Nat → ClassId) (α : Nat → Nat) (N : Nat) (M : zM) (a1 : Int) (r : Int) (M' : zM) (hF : fX8_runs N a1 M = some (r, M')) : Met l yX8_runs wsX8_runs ({ frames := 5, cells := 0, slots := 0, locals := 113 }) (zPre D cs LM α M [.ref (α 0), .int (nZ a1)]) (zQi D cs LM α r M') 0 0 (zA LM.length α) := by
  refine z_met (cc := cX8_runs) (maxL := 4) (ret := (some .int)) (by decide +kernel) rfl RX8 rfl (Nat.le_of_ble_eq_true rfl) ?_
  intro p e s m below meth c ls hX hr hlocks hH hl
  have hx := hX.1.1
  have hb := hX.1.2.1
  have hts := hX.1.2.2.2.2
  have J115 : ∀ (k14 : Int → Int → Int → zM → Option (Int × zM)) (hk14 : ∀ (x1 : Int) (x2 : Int) (x3 : Int) (M0 : zM), k14 x1 x2 x3 M0 = some (r, M') → zGo p l e (headSpec wsX8_runs ({ frames := 5, cells := 0, slots := 0, locals := 113 })).room s m ([.ref (α 0), .int (nZ a1)] : List Value).toArray below meth c (MQ below (zQi D cs LM α r M') ([.ref (α 0), .int (nZ a1)] : List Value).toArray s 0 0 (zA LM.length α)) D cs LM α (zA LM.length α) 4 14 [(0, .ref (α 0)), (1, .int (nZ x1)), (2, .int (nZ x2)), (3, .int (nZ x3))] [] M0) (x1 : Int) (x2 : Int) (x3 : Int) (M0 : zM), sX8_runs_115 N k14 x1 x2 x3 M0 = some (r, M') → zGo p l e (headSpec wsX8_runs ({ frames := 5, cells := 0, slots := 0, locals := 113 })).room s m ([.ref (α 0), .int (nZ a1)] : List Value).toArray below meth c (MQ below (zQi D cs LM α r M') ([.ref (α 0), .int (nZ a1)] : List Value).toArray s 0 0 (zA LM.length α)) D cs LM α (zA LM.length α) 4 115 [(0, .ref (α 0)), (1, .int (nZ x1)), (2, .int (nZ x2)), (3, .int (nZ x3))] [] M0 := by
    intro k14 hk14 x1 x2 x3 M0 hF H locs ls hH hl
    unfold sX8_runs_115 at hF
    obtain ⟨v10, ev10, hF⟩ := zl_e hF
    refine z_iinc ev10 (lv' := [(3, .int (nZ v10)), (0, .ref (α 0)), (1, .int (nZ x1)), (2, .int (nZ x2))]) hx hb dX8_runs_115 hl (k := 3) rfl (by decide) rfl (fun ls hl => ?_)
    refine lv_goto (tgt := 14) hx hb dX8_runs_118 (by decide) ?_
    exact hk14 x1 x2 v10 M0 hF _ _ _ hH (lv_sub hl [1, 2, 3, 0] rfl)
  have L14 : ∀ (n : Nat) (x1 : Int) (x2 : Int) (x3 : Int) (M0 : zM), fX8_runs_14 N n x1 x2 x3 M0 = some (r, M') → zGo p l e (headSpec wsX8_runs ({ frames := 5, cells := 0, slots := 0, locals := 113 })).room s m ([.ref (α 0), .int (nZ a1)] : List Value).toArray below meth c (MQ below (zQi D cs LM α r M') ([.ref (α 0), .int (nZ a1)] : List Value).toArray s 0 0 (zA LM.length α)) D cs LM α (zA LM.length α) 4 14 [(0, .ref (α 0)), (1, .int (nZ x1)), (2, .int (nZ x2)), (3, .int (nZ x3))] [] M0 := by
    intro  n
    induction n with
    | zero =>
      intro x1 x2 x3 M0 hF
      have hF : (none : Option (Int × zM)) = some (r, M') := hF
      cases hF
    | succ n hk14 =>
      intro x1 x2 x3 M0 hF H locs ls hH hl
      have hF : sX8_runs_14 N (fun x1 x2 x3 M0 => fX8_runs_14 N n x1 x2 x3 M0) x1 x2 x3 M0 = some (r, M') := hF
      unfold sX8_runs_14 at hF
      refine lv_iload_n hx hb dX8_runs_14 rfl (lv_at hl 3 rfl) ?_
      refine lv_iload_n hx hb dX8_runs_15 rfl (lv_at hl 1 rfl) ?_
      refine z_bipush (v := 20) hx hb dX8_runs_16 (by decide +kernel) ?_
      refine z_imul hx hb dX8_runs_18 ?_
      refine lv_aload_n hx hb dX8_runs_19 rfl (lv_at hl 0 rfl) ?_
      refine z_getr hX hH 0 11 9 rfl rfl flX8_runs_36 dX8_runs_20 ?_
      refine lv_iload_n hx hb dX8_runs_23 rfl (lv_at hl 1 rfl) ?_
      obtain ⟨h3, hF⟩ := zg_e hF
      refine z_iald hX hH 9 6 rfl h3 (by decide) dX8_runs_24 ?_
      refine z_iadd hx hb dX8_runs_25 ?_
      obtain ⟨h4, hF⟩ := zg_e hF
      obtain ⟨h5, hF⟩ := zg_e hF
      refine z_icmp_ge (tgt := 121) hx hb h4 h5 dX8_runs_26 (by decide) (fun hc => ?_) (fun hc => ?_)
      · have hF := zi_t hF hc
        refine lv_aload_n hx hb dX8_runs_121 rfl (lv_at hl 0 rfl) ?_
        refine z_getr hX hH 0 0 1 rfl rfl flX8_runs_11 dX8_runs_122 ?_
        refine z_sipush (v := 3209) hx hb dX8_runs_125 (by decide +kernel) ?_
        refine z_iald hX hH 1 3253 rfl (by decide) (by decide) dX8_runs_128 ?_
        refine lv_iload_n hx hb dX8_runs_129 rfl (lv_at hl 2 rfl) ?_
        refine z_isub hx hb dX8_runs_130 ?_
        exact z_iret hX hr hlocks hH hF rfl dX8_runs_131
      · have hF := zi_f hF hc
        refine lv_aload_n hx hb dX8_runs_29 rfl (lv_at hl 0 rfl) ?_
        refine z_getr hX hH 0 8 6 rfl rfl flX8_runs_27 dX8_runs_30 ?_
        refine lv_iload_n hx hb dX8_runs_33 rfl (lv_at hl 3 rfl) ?_
        obtain ⟨h6, hF⟩ := zg_e hF
        refine z_iald hX hH 6 120 rfl h6 (by decide) dX8_runs_34 ?_
        refine z_bipush (v := 103) hx hb dX8_runs_35 (by decide +kernel) ?_
        obtain ⟨h7, hF⟩ := zg_e hF
        refine z_icmp_ne (tgt := 54) hx hb h7 (by decide) dX8_runs_37 (by decide) (fun hc => ?_) (fun hc => ?_)
        · have hF := zi_f hF hc
          refine lv_aload_n hx hb dX8_runs_54 rfl (lv_at hl 0 rfl) ?_
          refine z_getr hX hH 0 8 6 rfl rfl flX8_runs_27 dX8_runs_55 ?_
          refine lv_iload_n hx hb dX8_runs_58 rfl (lv_at hl 3 rfl) ?_
          refine z_iald hX hH 6 120 rfl h6 (by decide) dX8_runs_59 ?_
          refine z_bipush (v := 120) hx hb dX8_runs_60 (by decide +kernel) ?_
          refine z_icmp_ne (tgt := 79) hx hb h7 (by decide) dX8_runs_62 (by decide) (fun hc => ?_) (fun hc => ?_)
          · have hF := zi_f hF hc
            refine lv_aload_n hx hb dX8_runs_79 rfl (lv_at hl 0 rfl) ?_
            refine z_getr hX hH 0 10 8 rfl rfl flX8_runs_33 dX8_runs_80 ?_
            refine lv_iload_n hx hb dX8_runs_83 rfl (lv_at hl 3 rfl) ?_
            refine z_iald hX hH 8 120 rfl h6 (by decide) dX8_runs_84 ?_
            refine lv_aload_n hx hb dX8_runs_85 rfl (lv_at hl 0 rfl) ?_
            refine z_getr hX hH 0 0 1 rfl rfl flX8_runs_11 dX8_runs_86 ?_
            refine z_sipush (v := 3200) hx hb dX8_runs_89 (by decide +kernel) ?_
            refine z_iald hX hH 1 3253 rfl (by decide) (by decide) dX8_runs_92 ?_
            obtain ⟨h8, hF⟩ := zg_e hF
            obtain ⟨h9, hF⟩ := zg_e hF
            refine z_icmp_gt (tgt := 115) hx hb h8 h9 dX8_runs_93 (by decide) (fun hc => ?_) (fun hc => ?_)
            · have hF := zi_t hF hc
              exact J115 (fun x1 x2 x3 M0 => fX8_runs_14 N n x1 x2 x3 M0) hk14 x1 x2 x3 M0 hF _ _ _ hH (lv_sub hl [0, 1, 2, 3] rfl)
            · have hF := zi_f hF hc
              refine lv_aload_n hx hb dX8_runs_96 rfl (lv_at hl 0 rfl) ?_
              refine lv_aload_n hx hb dX8_runs_97 rfl (lv_at hl 0 rfl) ?_
              refine z_getr hX hH 0 9 7 rfl rfl flX8_runs_30 dX8_runs_98 ?_
              refine lv_iload_n hx hb dX8_runs_101 rfl (lv_at hl 3 rfl) ?_
              refine z_iald hX hH 7 120 rfl h6 (by decide) dX8_runs_102 ?_
              refine z_iconst hx hb dX8_runs_103 ?_
              refine lv_aload_n hx hb dX8_runs_104 rfl (lv_at hl 0 rfl) ?_
              refine z_getr hX hH 0 10 8 rfl rfl flX8_runs_33 dX8_runs_105 ?_
              refine lv_iload_n hx hb dX8_runs_108 rfl (lv_at hl 3 rfl) ?_
              refine z_iald hX hH 8 120 rfl h6 (by decide) dX8_runs_109 ?_
              refine z_iconst hx hb dX8_runs_110 ?_
              obtain ⟨r13, M12, c11, hF⟩ := zc2_e hF
              refine z_sameVi (As := [.int (nZ (M0 7 x3.toNat)), .int (nZ (0:Int)), .int (nZ (M0 8 x3.toNat)), .int (nZ (1:Int))]) hX hH 0 8 (ctX8_putIn l D cs α N M0 (M0 7 x3.toNat) (0:Int) (M0 8 x3.toNat) (1:Int) r13 M12 c11) (cwV 4 hts gX8_runs_X8_putIn rfl rfl rfl (by decide +kernel) ⟨Nat.le_of_ble_eq_true rfl, Nat.le_of_ble_eq_true rfl⟩) rfl rfl rfl hl.1 (Nat.le_of_ble_eq_true rfl) rfl dX8_runs_111 ⟨Nat.zero_le _, Nat.zero_le _⟩ (fun H locs hH => ?_)
              refine lv_pop hx hb dX8_runs_114 rfl ?_
              exact J115 (fun x1 x2 x3 M0 => fX8_runs_14 N n x1 x2 x3 M0) hk14 x1 x2 x3 M12 hF _ _ _ hH (lv_sub hl [0, 1, 2, 3] rfl)
          · have hF := zi_t hF hc
            refine lv_aload_n hx hb dX8_runs_65 rfl (lv_at hl 0 rfl) ?_
            refine lv_aload_n hx hb dX8_runs_66 rfl (lv_at hl 0 rfl) ?_
            refine z_getr hX hH 0 9 7 rfl rfl flX8_runs_30 dX8_runs_67 ?_
            refine lv_iload_n hx hb dX8_runs_70 rfl (lv_at hl 3 rfl) ?_
            refine z_iald hX hH 7 120 rfl h6 (by decide) dX8_runs_71 ?_
            obtain ⟨r16, M15, c14, hF⟩ := zc2_e hF
            refine z_sameVi (As := [.int (nZ (M0 7 x3.toNat))]) hX hH 0 8 (ctX8_drops l D cs α N M0 (M0 7 x3.toNat) r16 M15 c14) (cwV 1 hts gX8_runs_X8_drops rfl rfl rfl (by decide +kernel) ⟨Nat.le_of_ble_eq_true rfl, Nat.le_of_ble_eq_true rfl⟩) rfl rfl rfl hl.1 (Nat.le_of_ble_eq_true rfl) rfl dX8_runs_72 ⟨Nat.zero_le _, Nat.zero_le _⟩ (fun H locs hH => ?_)
            refine lv_pop hx hb dX8_runs_75 rfl ?_
            refine lv_goto (tgt := 115) hx hb dX8_runs_76 (by decide) ?_
            exact J115 (fun x1 x2 x3 M0 => fX8_runs_14 N n x1 x2 x3 M0) hk14 x1 x2 x3 M15 hF _ _ _ hH (lv_sub hl [0, 1, 2, 3] rfl)
        · have hF := zi_t hF hc
          refine lv_aload_n hx hb dX8_runs_40 rfl (lv_at hl 0 rfl) ?_
          refine lv_aload_n hx hb dX8_runs_41 rfl (lv_at hl 0 rfl) ?_
          refine z_getr hX hH 0 9 7 rfl rfl flX8_runs_30 dX8_runs_42 ?_
          refine lv_iload_n hx hb dX8_runs_45 rfl (lv_at hl 3 rfl) ?_
          refine z_iald hX hH 7 120 rfl h6 (by decide) dX8_runs_46 ?_
          obtain ⟨r19, M18, c17, hF⟩ := zc2_e hF
          refine z_sameVi (As := [.int (nZ (M0 7 x3.toNat))]) hX hH 0 8 (ctX8_gets l D cs α N M0 (M0 7 x3.toNat) r19 M18 c17) (cwV 1 hts gX8_runs_X8_gets rfl rfl rfl (by decide +kernel) ⟨Nat.le_of_ble_eq_true rfl, Nat.le_of_ble_eq_true rfl⟩) rfl rfl rfl hl.1 (Nat.le_of_ble_eq_true rfl) rfl dX8_runs_47 ⟨Nat.zero_le _, Nat.zero_le _⟩ (fun H locs hH => ?_)
          refine lv_pop hx hb dX8_runs_50 rfl ?_
          refine lv_goto (tgt := 115) hx hb dX8_runs_51 (by decide) ?_
          exact J115 (fun x1 x2 x3 M0 => fX8_runs_14 N n x1 x2 x3 M0) hk14 x1 x2 x3 M18 hF _ _ _ hH (lv_sub hl [0, 1, 2, 3] rfl)
  have hl : lv_has ls 4 [(0, .ref (α 0)), (1, .int (nZ a1))] := hl
  unfold fX8_runs at hF
  refine lv_aload_n hx hb dX8_runs_0 rfl (lv_at hl 0 rfl) ?_
  refine z_getr hX hH 0 0 1 rfl rfl flX8_runs_11 dX8_runs_1 ?_
  refine z_sipush (v := 3209) hx hb dX8_runs_4 (by decide +kernel) ?_
  refine z_iald hX hH 1 3253 rfl (by decide) (by decide) dX8_runs_7 ?_
  obtain ⟨v1, ev1, hF⟩ := zl_e hF
  refine z_istore_n ev1 (lv' := [(2, .int (nZ v1)), (0, .ref (α 0)), (1, .int (nZ a1))]) hx hb dX8_runs_8 rfl hl (by decide) rfl (fun ls hl => ?_)
  refine lv_iload_n hx hb dX8_runs_9 rfl (lv_at hl 2 rfl) ?_
  refine z_bipush (v := 20) hx hb dX8_runs_10 (by decide +kernel) ?_
  refine z_imul hx hb dX8_runs_12 ?_
  obtain ⟨v2, ev2, hF⟩ := zl_e hF
  refine z_istore_n ev2 (lv' := [(3, .int (nZ v2)), (2, .int (nZ v1)), (0, .ref (α 0)), (1, .int (nZ a1))]) hx hb dX8_runs_13 rfl hl (by decide) rfl (fun ls hl => ?_)
  exact L14 N a1 v1 v2 M hF _ _ _ hH (lv_sub hl [2, 3, 1, 0] rfl)
theorem flX8_isTrace_139 : zF RX8 wsX8_isTrace 139 8 12 := ⟨_, TX8, _, rfl, by decide +kernel, by decide +kernel, by decide, rfl⟩
set_option maxHeartbeats 4000000 in
set_option maxRecDepth 100000 in
theorem ctX8_isTrace (l : Launch) (D : va_G) (cs : Nat → ClassId) (α : Nat → Nat) (N : Nat) (M : zM) (a1 : Int) (r : Int) (M' : zM) (hF : fX8_isTrace N a1 M = some (r, M')) : Met l yX8_isTrace wsX8_isTrace ({ frames := 1, cells := 0, slots := 0, locals := 22 }) (zPre D cs LM α M [.ref (α 0), .int (nZ a1)]) (zQi D cs LM α r M') 0 0 (zA LM.length α) := by
  refine z_met (cc := cX8_isTrace) (maxL := 2) (ret := (some .boolean)) (by decide +kernel) rfl RX8 rfl (Nat.le_of_ble_eq_true rfl) ?_
  intro p e s m below meth c ls hX hr hlocks hH hl
  have hx := hX.1.1
  have hb := hX.1.2.1
  have hts := hX.1.2.2.2.2
  have hl : lv_has ls 2 [(0, .ref (α 0)), (1, .int (nZ a1))] := hl
  unfold fX8_isTrace at hF
  refine lv_iload_n hx hb dX8_isTrace_0 rfl (lv_at hl 1 rfl) ?_
  refine z_iconst hx hb dX8_isTrace_1 ?_
  refine lv_aload_n hx hb dX8_isTrace_2 rfl (lv_at hl 0 rfl) ?_
  refine z_geti hX hH 0 12 rfl rfl flX8_isTrace_139 dX8_isTrace_3 ?_
  refine z_iconst hx hb dX8_isTrace_6 ?_
  refine z_isub hx hb dX8_isTrace_7 ?_
  obtain ⟨r1, c2, hF⟩ := zc_e hF
  refine z_callSi (As := [.int (nZ a1), .int (nZ (0:Int)), .int (nZ ((M 0 12) - (1:Int)))]) (is := []) (Ll := []) hX hH rfl (ctX8_in l D cs (zsb [] α) N (zpk [] M) a1 (0:Int) ((M 0 12) - (1:Int)) r1 c2) (va_cwS 3 hts gX8_isTrace_X8_in rfl rfl rfl (by decide +kernel) ⟨Nat.le_of_ble_eq_true rfl, Nat.le_of_ble_eq_true rfl⟩) rfl hl.1 (Nat.le_of_ble_eq_true rfl) rfl dX8_isTrace_8 ⟨Nat.zero_le _, Nat.zero_le _⟩ (fun H locs hH => ?_)
  have hH : zH D cs LM α M (zA LM.length α) s H locs := hH
  obtain ⟨h3, hF⟩ := zg_e hF
  exact z_iret hX hr hlocks hH hF (z_bool h3) dX8_isTrace_11
set_option maxHeartbeats 4000000 in
set_option maxRecDepth 100000 in
theorem ctX8_run (l : Launch) (D : va_G) (cs : Nat → ClassId) (α : Nat → Nat) (N : Nat) (M : zM) (a1 : Int) (r : Int) (M' : zM) (hF : fX8_run N a1 M = some (r, M')) : Met l yX8_run wsX8_run ({ frames := 6, cells := 0, slots := 0, locals := 136 }) (zPre D cs LM α M [.ref (α 0), .int (nZ a1)]) (zQi D cs LM α r M') 0 0 (zA LM.length α) := by
  refine z_met (cc := cX8_run) (maxL := 2) (ret := (some .int)) (by decide +kernel) rfl RX8 rfl (Nat.le_of_ble_eq_true rfl) ?_
  intro p e s m below meth c ls hX hr hlocks hH hl
  have hx := hX.1.1
  have hb := hX.1.2.1
  have hts := hX.1.2.2.2.2
  have hl : lv_has ls 2 [(0, .ref (α 0)), (1, .int (nZ a1))] := hl
  unfold fX8_run at hF
  refine lv_aload_n hx hb dX8_run_0 rfl (lv_at hl 0 rfl) ?_
  refine lv_iload_n hx hb dX8_run_1 rfl (lv_at hl 1 rfl) ?_
  obtain ⟨r3, M2, c1, hF⟩ := zc2_e hF
  refine z_sameVi (As := [.int (nZ a1)]) hX hH 0 8 (ctX8_isTrace l D cs α N M a1 r3 M2 c1) (cwV 1 hts gX8_run_X8_isTrace rfl rfl rfl (by decide +kernel) ⟨Nat.le_of_ble_eq_true rfl, Nat.le_of_ble_eq_true rfl⟩) rfl rfl rfl hl.1 (Nat.le_of_ble_eq_true rfl) rfl dX8_run_2 ⟨Nat.zero_le _, Nat.zero_le _⟩ (fun H locs hH => ?_)
  obtain ⟨h4, hF⟩ := zg_e hF
  refine z_if_eq (tgt := 16) hx hb h4 dX8_run_5 (by decide) (fun hc => ?_) (fun hc => ?_)
  · have hF := zi_t hF hc
    refine z_iconst hx hb dX8_run_16 ?_
    exact z_iret hX hr hlocks hH hF rfl dX8_run_17
  · have hF := zi_f hF hc
    refine lv_aload_n hx hb dX8_run_8 rfl (lv_at hl 0 rfl) ?_
    refine lv_iload_n hx hb dX8_run_9 rfl (lv_at hl 1 rfl) ?_
    obtain ⟨r7, M6, c5, hF⟩ := zc2_e hF
    refine z_sameVi (As := [.int (nZ a1)]) hX hH 0 8 (ctX8_runs l D cs α N M2 a1 r7 M6 c5) (cwV 1 hts gX8_run_X8_runs rfl rfl rfl (by decide +kernel) ⟨Nat.le_of_ble_eq_true rfl, Nat.le_of_ble_eq_true rfl⟩) rfl rfl rfl hl.1 (Nat.le_of_ble_eq_true rfl) rfl dX8_run_10 ⟨Nat.zero_le _, Nat.zero_le _⟩ (fun H locs hH => ?_)
    refine lv_goto (tgt := 17) hx hb dX8_run_13 (by decide) ?_
    exact z_iret hX hr hlocks hH hF rfl dX8_run_17
theorem flX8_would_11 : zF RX8 wsX8_would 11 8 0 := ⟨_, TX8, _, rfl, by decide +kernel, by decide +kernel, by decide, rfl⟩
theorem flX8_would_15 : zF RX8 wsX8_would 15 8 1 := ⟨_, TX8, _, rfl, by decide +kernel, by decide +kernel, by decide, rfl⟩
set_option maxHeartbeats 4000000 in
set_option maxRecDepth 100000 in
theorem ctX8_would (l : Launch) (D : va_G) (cs : Nat → ClassId) (α : Nat → Nat) (N : Nat) (M : zM) (a1 : Int) (a2 : Int) (r : Int) (M' : zM) (hF : fX8_would N a1 a2 M = some (r, M')) : Met l yX8_would wsX8_would ({ frames := 6, cells := 0, slots := 0, locals := 136 }) (zPre D cs LM α M [.ref (α 0), .int (nZ a1), .int (nZ a2)]) (zQi D cs LM α r M') 0 0 (zA LM.length α) := by
  refine z_met (cc := cX8_would) (maxL := 4) (ret := (some .int)) (by decide +kernel) rfl RX8 rfl (Nat.le_of_ble_eq_true rfl) ?_
  intro p e s m below meth c ls hX hr hlocks hH hl
  have hx := hX.1.1
  have hb := hX.1.2.1
  have hts := hX.1.2.2.2.2
  have J140 : ∀ (x3 : Int) (M0 : zM), sX8_would_140 N x3 M0 = some (r, M') → zGo p l e (headSpec wsX8_would ({ frames := 6, cells := 0, slots := 0, locals := 136 })).room s m ([.ref (α 0), .int (nZ a1), .int (nZ a2)] : List Value).toArray below meth c (MQ below (zQi D cs LM α r M') ([.ref (α 0), .int (nZ a1), .int (nZ a2)] : List Value).toArray s 0 0 (zA LM.length α)) D cs LM α (zA LM.length α) 4 140 [(0, .ref (α 0)), (3, .int (nZ x3))] [] M0 := by
    intro x3 M0 hF H locs ls hH hl
    unfold sX8_would_140 at hF
    refine lv_aload_n hx hb dX8_would_140 rfl (lv_at hl 0 rfl) ?_
    refine z_getr hX hH 0 1 2 rfl rfl flX8_would_15 dX8_would_141 ?_
    refine lv_aload_n hx hb dX8_would_144 rfl (lv_at hl 0 rfl) ?_
    refine z_getr hX hH 0 0 1 rfl rfl flX8_would_11 dX8_would_145 ?_
    obtain ⟨M18, c17, hF⟩ := zc_e hF
    obtain ⟨M19, eM19, hF⟩ := zl_e hF
    refine z_callSv (As := [.ref (α 2), .ref (α 1)]) (is := is_2n1_1n1) hX hH em_LM_is_2n1_1n1 (ctX8_copy l D cs (zsb is_2n1_1n1 α) N (zpk is_2n1_1n1 M0)  M18 c17) (va_cwS 2 hts gX8_would_X8_copy rfl rfl rfl (by decide +kernel) ⟨Nat.le_of_ble_eq_true rfl, Nat.le_of_ble_eq_true rfl⟩) rfl hl.1 (Nat.le_of_ble_eq_true rfl) rfl dX8_would_148 ⟨Nat.zero_le _, Nat.zero_le _⟩ (fun H locs hH => ?_)
    rw [← eM19] at hH
    refine lv_iload_n hx hb dX8_would_151 rfl (lv_at hl 1 rfl) ?_
    exact z_iret hX hr hlocks hH hF rfl dX8_would_152
  have hl : lv_has ls 4 [(0, .ref (α 0)), (1, .int (nZ a1)), (2, .int (nZ a2))] := hl
  unfold fX8_would at hF
  refine lv_aload_n hx hb dX8_would_0 rfl (lv_at hl 0 rfl) ?_
  refine lv_iload_n hx hb dX8_would_1 rfl (lv_at hl 1 rfl) ?_
  obtain ⟨r3, M2, c1, hF⟩ := zc2_e hF
  refine z_sameVi (As := [.int (nZ a1)]) hX hH 0 8 (ctX8_isTrace l D cs α N M a1 r3 M2 c1) (cwV 1 hts gX8_would_X8_isTrace rfl rfl rfl (by decide +kernel) ⟨Nat.le_of_ble_eq_true rfl, Nat.le_of_ble_eq_true rfl⟩) rfl rfl rfl hl.1 (Nat.le_of_ble_eq_true rfl) rfl dX8_would_2 ⟨Nat.zero_le _, Nat.zero_le _⟩ (fun H locs hH => ?_)
  obtain ⟨h4, hF⟩ := zg_e hF
  refine z_if_eq (tgt := 17) hx hb h4 dX8_would_5 (by decide) (fun hc => ?_) (fun hc => ?_)
  · have hF := zi_t hF hc
    refine z_iconst hx hb dX8_would_17 ?_
    exact z_iret hX hr hlocks hH hF rfl dX8_would_18
  · have hF := zi_f hF hc
    refine lv_iload_n hx hb dX8_would_8 rfl (lv_at hl 2 rfl) ?_
    refine z_iconst hx hb dX8_would_9 ?_
    refine z_iconst hx hb dX8_would_10 ?_
    obtain ⟨r5, c6, hF⟩ := zc_e hF
    refine z_callSi (As := [.int (nZ a2), .int (nZ (0:Int)), .int (nZ (5:Int))]) (is := []) (Ll := []) hX hH rfl (ctX8_in l D cs (zsb [] α) N (zpk [] M2) a2 (0:Int) (5:Int) r5 c6) (va_cwS 3 hts gX8_would_X8_in rfl rfl rfl (by decide +kernel) ⟨Nat.le_of_ble_eq_true rfl, Nat.le_of_ble_eq_true rfl⟩) rfl hl.1 (Nat.le_of_ble_eq_true rfl) rfl dX8_would_11 ⟨Nat.zero_le _, Nat.zero_le _⟩ (fun H locs hH => ?_)
    have hH : zH D cs LM α M2 (zA LM.length α) s H locs := hH
    obtain ⟨h7, hF⟩ := zg_e hF
    refine z_if_ne (tgt := 19) hx hb h7 dX8_would_14 (by decide) (fun hc => ?_) (fun hc => ?_)
    · have hF := zi_f hF hc
      refine lv_aload_n hx hb dX8_would_19 rfl (lv_at hl 0 rfl) ?_
      refine z_getr hX hH 0 0 1 rfl rfl flX8_would_11 dX8_would_20 ?_
      refine lv_aload_n hx hb dX8_would_23 rfl (lv_at hl 0 rfl) ?_
      refine z_getr hX hH 0 1 2 rfl rfl flX8_would_15 dX8_would_24 ?_
      obtain ⟨M9, c8, hF⟩ := zc_e hF
      obtain ⟨M10, eM10, hF⟩ := zl_e hF
      refine z_callSv (As := [.ref (α 1), .ref (α 2)]) (is := is_1n1_2n1) hX hH em_LM_is_1n1_2n1 (ctX8_copy l D cs (zsb is_1n1_2n1 α) N (zpk is_1n1_2n1 M2)  M9 c8) (va_cwS 2 hts gX8_would_X8_copy rfl rfl rfl (by decide +kernel) ⟨Nat.le_of_ble_eq_true rfl, Nat.le_of_ble_eq_true rfl⟩) rfl hl.1 (Nat.le_of_ble_eq_true rfl) rfl dX8_would_27 ⟨Nat.zero_le _, Nat.zero_le _⟩ (fun H locs hH => ?_)
      rw [← eM10] at hH
      refine lv_aload_n hx hb dX8_would_30 rfl (lv_at hl 0 rfl) ?_
      refine lv_iload_n hx hb dX8_would_31 rfl (lv_at hl 1 rfl) ?_
      obtain ⟨r13, M12, c11, hF⟩ := zc2_e hF
      refine z_sameVi (As := [.int (nZ a1)]) hX hH 0 8 (ctX8_runs l D cs α N M10 a1 r13 M12 c11) (cwV 1 hts gX8_would_X8_runs rfl rfl rfl (by decide +kernel) ⟨Nat.le_of_ble_eq_true rfl, Nat.le_of_ble_eq_true rfl⟩) rfl rfl rfl hl.1 (Nat.le_of_ble_eq_true rfl) rfl dX8_would_32 ⟨Nat.zero_le _, Nat.zero_le _⟩ (fun H locs hH => ?_)
      refine lv_pop hx hb dX8_would_35 rfl ?_
      refine lv_iload_n hx hb dX8_would_36 rfl (lv_at hl 2 rfl) ?_
      obtain ⟨h14, hF⟩ := zg_e hF
      by_cases hc : a2 < (3:Int) ∨ (5:Int) < a2
      · have hF := zi_t hF hc
        refine z_tableOut (tgt := 118) hx hb h14 hc dX8_would_37 (by decide) ?_
        refine lv_aload_n hx hb dX8_would_118 rfl (lv_at hl 0 rfl) ?_
        refine z_getr hX hH 0 0 1 rfl rfl flX8_would_11 dX8_would_119 ?_
        refine z_sipush (v := 3209) hx hb dX8_would_122 (by decide +kernel) ?_
        refine lv_iload_n hx hb dX8_would_125 rfl (lv_at hl 2 rfl) ?_
        refine z_iadd hx hb dX8_would_126 ?_
        obtain ⟨h15, hF⟩ := zg_e hF
        refine z_iald hX hH 1 3253 rfl h15 (by decide) dX8_would_127 ?_
        refine lv_aload_n hx hb dX8_would_128 rfl (lv_at hl 0 rfl) ?_
        refine z_getr hX hH 0 1 2 rfl rfl flX8_would_15 dX8_would_129 ?_
        refine z_sipush (v := 3209) hx hb dX8_would_132 (by decide +kernel) ?_
        refine lv_iload_n hx hb dX8_would_135 rfl (lv_at hl 2 rfl) ?_
        refine z_iadd hx hb dX8_would_136 ?_
        refine z_iald hX hH 2 3253 rfl h15 (by decide) dX8_would_137 ?_
        refine z_isub hx hb dX8_would_138 ?_
        obtain ⟨v16, ev16, hF⟩ := zl_e hF
        refine z_istore_n ev16 (lv' := [(3, .int (nZ v16)), (0, .ref (α 0)), (1, .int (nZ a1)), (2, .int (nZ a2))]) hx hb dX8_would_139 rfl hl (by decide) rfl (fun ls hl => ?_)
        exact J140 v16 M12 hF _ _ _ hH (lv_sub hl [1, 0] rfl)
      have hF := zi_f hF hc
      by_cases hc : a2 = (3:Int)
      · have hF := zi_t hF hc
        refine z_tableIn (tgt := 64) (v := 3) hx hb hc (by decide) dX8_would_37 (by decide +kernel) (by decide +kernel) rfl (by decide) ?_
        refine lv_aload_n hx hb dX8_would_64 rfl (lv_at hl 0 rfl) ?_
        refine z_getr hX hH 0 0 1 rfl rfl flX8_would_11 dX8_would_65 ?_
        refine z_sipush (v := 3201) hx hb dX8_would_68 (by decide +kernel) ?_
        refine z_iald hX hH 1 3253 rfl (by decide) (by decide) dX8_would_71 ?_
        obtain ⟨v20, ev20, hF⟩ := zl_e hF
        refine z_istore_n ev20 (lv' := [(3, .int (nZ v20)), (0, .ref (α 0)), (1, .int (nZ a1)), (2, .int (nZ a2))]) hx hb dX8_would_72 rfl hl (by decide) rfl (fun ls hl => ?_)
        refine lv_goto (tgt := 140) hx hb dX8_would_73 (by decide) ?_
        exact J140 v20 M12 hF _ _ _ hH (lv_sub hl [1, 0] rfl)
      have hF := zi_f hF hc
      by_cases hc : a2 = (4:Int)
      · have hF := zi_t hF hc
        refine z_tableIn (tgt := 76) (v := 4) hx hb hc (by decide) dX8_would_37 (by decide +kernel) (by decide +kernel) rfl (by decide) ?_
        refine lv_aload_n hx hb dX8_would_76 rfl (lv_at hl 0 rfl) ?_
        refine z_getr hX hH 0 0 1 rfl rfl flX8_would_11 dX8_would_77 ?_
        refine z_sipush (v := 3205) hx hb dX8_would_80 (by decide +kernel) ?_
        refine z_iald hX hH 1 3253 rfl (by decide) (by decide) dX8_would_83 ?_
        refine lv_aload_n hx hb dX8_would_84 rfl (lv_at hl 0 rfl) ?_
        refine z_getr hX hH 0 0 1 rfl rfl flX8_would_11 dX8_would_85 ?_
        refine z_sipush (v := 3206) hx hb dX8_would_88 (by decide +kernel) ?_
        refine z_iald hX hH 1 3253 rfl (by decide) (by decide) dX8_would_91 ?_
        refine z_iadd hx hb dX8_would_92 ?_
        obtain ⟨v21, ev21, hF⟩ := zl_e hF
        refine z_istore_n ev21 (lv' := [(3, .int (nZ v21)), (0, .ref (α 0)), (1, .int (nZ a1)), (2, .int (nZ a2))]) hx hb dX8_would_93 rfl hl (by decide) rfl (fun ls hl => ?_)
        refine lv_goto (tgt := 140) hx hb dX8_would_94 (by decide) ?_
        exact J140 v21 M12 hF _ _ _ hH (lv_sub hl [1, 0] rfl)
      have hF := zi_f hF hc
      by_cases hc : a2 = (5:Int)
      · have hF := zi_t hF hc
        refine z_tableIn (tgt := 97) (v := 5) hx hb hc (by decide) dX8_would_37 (by decide +kernel) (by decide +kernel) rfl (by decide) ?_
        refine lv_aload_n hx hb dX8_would_97 rfl (lv_at hl 0 rfl) ?_
        refine z_getr hX hH 0 0 1 rfl rfl flX8_would_11 dX8_would_98 ?_
        refine z_sipush (v := 3214) hx hb dX8_would_101 (by decide +kernel) ?_
        refine z_iald hX hH 1 3253 rfl (by decide) (by decide) dX8_would_104 ?_
        refine lv_aload_n hx hb dX8_would_105 rfl (lv_at hl 0 rfl) ?_
        refine z_getr hX hH 0 1 2 rfl rfl flX8_would_15 dX8_would_106 ?_
        refine z_sipush (v := 3214) hx hb dX8_would_109 (by decide +kernel) ?_
        refine z_iald hX hH 2 3253 rfl (by decide) (by decide) dX8_would_112 ?_
        refine z_isub hx hb dX8_would_113 ?_
        obtain ⟨v22, ev22, hF⟩ := zl_e hF
        refine z_istore_n ev22 (lv' := [(3, .int (nZ v22)), (0, .ref (α 0)), (1, .int (nZ a1)), (2, .int (nZ a2))]) hx hb dX8_would_114 rfl hl (by decide) rfl (fun ls hl => ?_)
        refine lv_goto (tgt := 140) hx hb dX8_would_115 (by decide) ?_
        exact J140 v22 M12 hF _ _ _ hH (lv_sub hl [1, 0] rfl)
      have hF := zi_f hF hc
      cases hF
    · have hF := zi_t hF hc
      refine z_iconst hx hb dX8_would_17 ?_
      exact z_iret hX hr hlocks hH hF rfl dX8_would_18
theorem flX8_need_11 : zF RX8 wsX8_need 11 8 0 := ⟨_, TX8, _, rfl, by decide +kernel, by decide +kernel, by decide, rfl⟩
theorem flX8_need_15 : zF RX8 wsX8_need 15 8 1 := ⟨_, TX8, _, rfl, by decide +kernel, by decide +kernel, by decide, rfl⟩
set_option maxHeartbeats 4000000 in
set_option maxRecDepth 100000 in
theorem ctX8_need (l : Launch) (D : va_G) (cs : Nat → ClassId) (α : Nat → Nat) (N : Nat) (M : zM) (a1 : Int) (a2 : Int) (r : Int) (M' : zM) (hF : fX8_need N a1 a2 M = some (r, M')) : Met l yX8_need wsX8_need ({ frames := 6, cells := 0, slots := 0, locals := 136 }) (zPre D cs LM α M [.ref (α 0), .int (nZ a1), .int (nZ a2)]) (zQi D cs LM α r M') 0 0 (zA LM.length α) := by
  refine z_met (cc := cX8_need) (maxL := 5) (ret := (some .int)) (by decide +kernel) rfl RX8 rfl (Nat.le_of_ble_eq_true rfl) ?_
  intro p e s m below meth c ls hX hr hlocks hH hl
  have hx := hX.1.1
  have hb := hX.1.2.1
  have hts := hX.1.2.2.2.2
  have J90 : ∀ (x3 : Int) (M0 : zM), sX8_need_90 N x3 M0 = some (r, M') → zGo p l e (headSpec wsX8_need ({ frames := 6, cells := 0, slots := 0, locals := 136 })).room s m ([.ref (α 0), .int (nZ a1), .int (nZ a2)] : List Value).toArray below meth c (MQ below (zQi D cs LM α r M') ([.ref (α 0), .int (nZ a1), .int (nZ a2)] : List Value).toArray s 0 0 (zA LM.length α)) D cs LM α (zA LM.length α) 5 90 [(3, .int (nZ x3))] [] M0 := by
    intro x3 M0 hF H locs ls hH hl
    unfold sX8_need_90 at hF
    refine lv_iload_n hx hb dX8_need_90 rfl (lv_at hl 0 rfl) ?_
    exact z_iret hX hr hlocks hH hF rfl dX8_need_91
  have J72 : ∀ (k40 : Int → Int → Int → Int → zM → Option (Int × zM)) (hk40 : ∀ (x1 : Int) (x2 : Int) (x3 : Int) (x4 : Int) (M0 : zM), k40 x1 x2 x3 x4 M0 = some (r, M') → zGo p l e (headSpec wsX8_need ({ frames := 6, cells := 0, slots := 0, locals := 136 })).room s m ([.ref (α 0), .int (nZ a1), .int (nZ a2)] : List Value).toArray below meth c (MQ below (zQi D cs LM α r M') ([.ref (α 0), .int (nZ a1), .int (nZ a2)] : List Value).toArray s 0 0 (zA LM.length α)) D cs LM α (zA LM.length α) 5 40 [(0, .ref (α 0)), (1, .int (nZ x1)), (2, .int (nZ x2)), (3, .int (nZ x3)), (4, .int (nZ x4))] [] M0) (x1 : Int) (x2 : Int) (x4 : Int) (y0 : Int) (M0 : zM), sX8_need_72 N k40 x1 x2 x4 y0 M0 = some (r, M') → zGo p l e (headSpec wsX8_need ({ frames := 6, cells := 0, slots := 0, locals := 136 })).room s m ([.ref (α 0), .int (nZ a1), .int (nZ a2)] : List Value).toArray below meth c (MQ below (zQi D cs LM α r M') ([.ref (α 0), .int (nZ a1), .int (nZ a2)] : List Value).toArray s 0 0 (zA LM.length α)) D cs LM α (zA LM.length α) 5 72 [(0, .ref (α 0)), (1, .int (nZ x1)), (2, .int (nZ x2)), (4, .int (nZ x4))] [.int (nZ y0)] M0 := by
    intro k40 hk40 x1 x2 x4 y0 M0 hF H locs ls hH hl
    unfold sX8_need_72 at hF
    obtain ⟨v22, ev22, hF⟩ := zl_e hF
    refine z_istore_n ev22 (lv' := [(3, .int (nZ v22)), (0, .ref (α 0)), (1, .int (nZ x1)), (2, .int (nZ x2)), (4, .int (nZ x4))]) hx hb dX8_need_72 rfl hl (by decide) rfl (fun ls hl => ?_)
    refine lv_aload_n hx hb dX8_need_73 rfl (lv_at hl 1 rfl) ?_
    refine z_getr hX hH 0 1 2 rfl rfl flX8_need_15 dX8_need_74 ?_
    refine lv_aload_n hx hb dX8_need_77 rfl (lv_at hl 1 rfl) ?_
    refine z_getr hX hH 0 0 1 rfl rfl flX8_need_11 dX8_need_78 ?_
    obtain ⟨M24, c23, hF⟩ := zc_e hF
    obtain ⟨M25, eM25, hF⟩ := zl_e hF
    refine z_callSv (As := [.ref (α 2), .ref (α 1)]) (is := is_2n1_1n1) hX hH em_LM_is_2n1_1n1 (ctX8_copy l D cs (zsb is_2n1_1n1 α) N (zpk is_2n1_1n1 M0)  M24 c23) (va_cwS 2 hts gX8_need_X8_copy rfl rfl rfl (by decide +kernel) ⟨Nat.le_of_ble_eq_true rfl, Nat.le_of_ble_eq_true rfl⟩) rfl hl.1 (Nat.le_of_ble_eq_true rfl) rfl dX8_need_81 ⟨Nat.zero_le _, Nat.zero_le _⟩ (fun H locs hH => ?_)
    rw [← eM25] at hH
    obtain ⟨v26, ev26, hF⟩ := zl_e hF
    refine z_iinc ev26 (lv' := [(4, .int (nZ v26)), (3, .int (nZ v22)), (0, .ref (α 0)), (1, .int (nZ x1)), (2, .int (nZ x2))]) hx hb dX8_need_84 hl (k := 4) rfl (by decide) rfl (fun ls hl => ?_)
    refine lv_goto (tgt := 40) hx hb dX8_need_87 (by decide) ?_
    exact hk40 x1 x2 v22 v26 M25 hF _ _ _ hH (lv_sub hl [2, 3, 4, 1, 0] rfl)
  have L40 : ∀ (n : Nat) (x1 : Int) (x2 : Int) (x3 : Int) (x4 : Int) (M0 : zM), fX8_need_40 N n x1 x2 x3 x4 M0 = some (r, M') → zGo p l e (headSpec wsX8_need ({ frames := 6, cells := 0, slots := 0, locals := 136 })).room s m ([.ref (α 0), .int (nZ a1), .int (nZ a2)] : List Value).toArray below meth c (MQ below (zQi D cs LM α r M') ([.ref (α 0), .int (nZ a1), .int (nZ a2)] : List Value).toArray s 0 0 (zA LM.length α)) D cs LM α (zA LM.length α) 5 40 [(0, .ref (α 0)), (1, .int (nZ x1)), (2, .int (nZ x2)), (3, .int (nZ x3)), (4, .int (nZ x4))] [] M0 := by
    intro  n
    induction n with
    | zero =>
      intro x1 x2 x3 x4 M0 hF
      have hF : (none : Option (Int × zM)) = some (r, M') := hF
      cases hF
    | succ n hk40 =>
      intro x1 x2 x3 x4 M0 hF H locs ls hH hl
      have hF : sX8_need_40 N (fun x1 x2 x3 x4 M0 => fX8_need_40 N n x1 x2 x3 x4 M0) x1 x2 x3 x4 M0 = some (r, M') := hF
      unfold sX8_need_40 at hF
      refine lv_iload hx hb dX8_need_40 (lv_at hl 4 rfl) ?_
      refine z_bipush (v := 60) hx hb dX8_need_42 (by decide +kernel) ?_
      obtain ⟨h13, hF⟩ := zg_e hF
      refine z_icmp_gt (tgt := 90) hx hb h13 (by decide) dX8_need_44 (by decide) (fun hc => ?_) (fun hc => ?_)
      · have hF := zi_t hF hc
        exact J90 x3 M0 hF _ _ _ hH (lv_sub hl [3] rfl)
      · have hF := zi_f hF hc
        refine lv_iload_n hx hb dX8_need_47 rfl (lv_at hl 3 rfl) ?_
        obtain ⟨h14, hF⟩ := zg_e hF
        refine z_if_ge (tgt := 90) hx hb h14 dX8_need_48 (by decide) (fun hc => ?_) (fun hc => ?_)
        · have hF := zi_t hF hc
          exact J90 x3 M0 hF _ _ _ hH (lv_sub hl [3] rfl)
        · have hF := zi_f hF hc
          refine lv_aload_n hx hb dX8_need_51 rfl (lv_at hl 0 rfl) ?_
          refine lv_iload hx hb dX8_need_52 (lv_at hl 4 rfl) ?_
          obtain ⟨M16, c15, hF⟩ := zc_e hF
          refine z_sameVv (As := [.int (nZ x4)]) hX hH 0 8 (ctX8_capacity l D cs α N M0 x4 M16 c15) (cwV 1 hts gX8_need_X8_capacity rfl rfl rfl (by decide +kernel) ⟨Nat.le_of_ble_eq_true rfl, Nat.le_of_ble_eq_true rfl⟩) rfl rfl rfl hl.1 (Nat.le_of_ble_eq_true rfl) rfl dX8_need_54 ⟨Nat.zero_le _, Nat.zero_le _⟩ (fun H locs hH => ?_)
          refine lv_aload_n hx hb dX8_need_57 rfl (lv_at hl 0 rfl) ?_
          refine lv_iload_n hx hb dX8_need_58 rfl (lv_at hl 1 rfl) ?_
          obtain ⟨r19, M18, c17, hF⟩ := zc2_e hF
          refine z_sameVi (As := [.int (nZ x1)]) hX hH 0 8 (ctX8_runs l D cs α N M16 x1 r19 M18 c17) (cwV 1 hts gX8_need_X8_runs rfl rfl rfl (by decide +kernel) ⟨Nat.le_of_ble_eq_true rfl, Nat.le_of_ble_eq_true rfl⟩) rfl rfl rfl hl.1 (Nat.le_of_ble_eq_true rfl) rfl dX8_need_59 ⟨Nat.zero_le _, Nat.zero_le _⟩ (fun H locs hH => ?_)
          refine lv_iload_n hx hb dX8_need_62 rfl (lv_at hl 2 rfl) ?_
          obtain ⟨h20, hF⟩ := zg_e hF
          obtain ⟨h21, hF⟩ := zg_e hF
          refine z_icmp_lt (tgt := 71) hx hb h20 h21 dX8_need_63 (by decide) (fun hc => ?_) (fun hc => ?_)
          · have hF := zi_t hF hc
            refine lv_iload_n hx hb dX8_need_71 rfl (lv_at hl 3 rfl) ?_
            exact J72 (fun x1 x2 x3 x4 M0 => fX8_need_40 N n x1 x2 x3 x4 M0) hk40 x1 x2 x4 x3 M18 hF _ _ _ hH (lv_sub hl [0, 1, 2, 4] rfl)
          · have hF := zi_f hF hc
            refine lv_iload hx hb dX8_need_66 (lv_at hl 4 rfl) ?_
            refine lv_goto (tgt := 72) hx hb dX8_need_68 (by decide) ?_
            exact J72 (fun x1 x2 x3 x4 M0 => fX8_need_40 N n x1 x2 x3 x4 M0) hk40 x1 x2 x4 x4 M18 hF _ _ _ hH (lv_sub hl [0, 1, 2, 4] rfl)
  have hl : lv_has ls 5 [(0, .ref (α 0)), (1, .int (nZ a1)), (2, .int (nZ a2))] := hl
  unfold fX8_need at hF
  refine lv_aload_n hx hb dX8_need_0 rfl (lv_at hl 0 rfl) ?_
  refine lv_iload_n hx hb dX8_need_1 rfl (lv_at hl 1 rfl) ?_
  obtain ⟨r3, M2, c1, hF⟩ := zc2_e hF
  refine z_sameVi (As := [.int (nZ a1)]) hX hH 0 8 (ctX8_isTrace l D cs α N M a1 r3 M2 c1) (cwV 1 hts gX8_need_X8_isTrace rfl rfl rfl (by decide +kernel) ⟨Nat.le_of_ble_eq_true rfl, Nat.le_of_ble_eq_true rfl⟩) rfl rfl rfl hl.1 (Nat.le_of_ble_eq_true rfl) rfl dX8_need_2 ⟨Nat.zero_le _, Nat.zero_le _⟩ (fun H locs hH => ?_)
  obtain ⟨h4, hF⟩ := zg_e hF
  refine z_if_ne (tgt := 10) hx hb h4 dX8_need_5 (by decide) (fun hc => ?_) (fun hc => ?_)
  · have hF := zi_f hF hc
    refine lv_iload_n hx hb dX8_need_10 rfl (lv_at hl 2 rfl) ?_
    refine z_iconst hx hb dX8_need_11 ?_
    refine z_bipush (v := 20) hx hb dX8_need_12 (by decide +kernel) ?_
    obtain ⟨r5, c6, hF⟩ := zc_e hF
    refine z_callSi (As := [.int (nZ a2), .int (nZ (0:Int)), .int (nZ (20:Int))]) (is := []) (Ll := []) hX hH rfl (ctX8_in l D cs (zsb [] α) N (zpk [] M2) a2 (0:Int) (20:Int) r5 c6) (va_cwS 3 hts gX8_need_X8_in rfl rfl rfl (by decide +kernel) ⟨Nat.le_of_ble_eq_true rfl, Nat.le_of_ble_eq_true rfl⟩) rfl hl.1 (Nat.le_of_ble_eq_true rfl) rfl dX8_need_14 ⟨Nat.zero_le _, Nat.zero_le _⟩ (fun H locs hH => ?_)
    have hH : zH D cs LM α M2 (zA LM.length α) s H locs := hH
    obtain ⟨h7, hF⟩ := zg_e hF
    refine z_if_ne (tgt := 23) hx hb h7 dX8_need_17 (by decide) (fun hc => ?_) (fun hc => ?_)
    · have hF := zi_f hF hc
      refine lv_aload_n hx hb dX8_need_23 rfl (lv_at hl 0 rfl) ?_
      refine z_getr hX hH 0 0 1 rfl rfl flX8_need_11 dX8_need_24 ?_
      refine lv_aload_n hx hb dX8_need_27 rfl (lv_at hl 0 rfl) ?_
      refine z_getr hX hH 0 1 2 rfl rfl flX8_need_15 dX8_need_28 ?_
      obtain ⟨M9, c8, hF⟩ := zc_e hF
      obtain ⟨M10, eM10, hF⟩ := zl_e hF
      refine z_callSv (As := [.ref (α 1), .ref (α 2)]) (is := is_1n1_2n1) hX hH em_LM_is_1n1_2n1 (ctX8_copy l D cs (zsb is_1n1_2n1 α) N (zpk is_1n1_2n1 M2)  M9 c8) (va_cwS 2 hts gX8_need_X8_copy rfl rfl rfl (by decide +kernel) ⟨Nat.le_of_ble_eq_true rfl, Nat.le_of_ble_eq_true rfl⟩) rfl hl.1 (Nat.le_of_ble_eq_true rfl) rfl dX8_need_31 ⟨Nat.zero_le _, Nat.zero_le _⟩ (fun H locs hH => ?_)
      rw [← eM10] at hH
      refine z_bipush (v := -5) hx hb dX8_need_34 (by decide +kernel) ?_
      obtain ⟨v11, ev11, hF⟩ := zl_e hF
      refine z_istore_n ev11 (lv' := [(3, .int (nZ v11)), (0, .ref (α 0)), (1, .int (nZ a1)), (2, .int (nZ a2))]) hx hb dX8_need_36 rfl hl (by decide) rfl (fun ls hl => ?_)
      refine z_iconst hx hb dX8_need_37 ?_
      obtain ⟨v12, ev12, hF⟩ := zl_e hF
      refine z_istore ev12 (lv' := [(4, .int (nZ v12)), (3, .int (nZ v11)), (0, .ref (α 0)), (1, .int (nZ a1)), (2, .int (nZ a2))]) hx hb dX8_need_38 hl (by decide) rfl (fun ls hl => ?_)
      exact L40 N a1 a2 v11 v12 M10 hF _ _ _ hH (lv_sub hl [2, 3, 4, 1, 0] rfl)
    · have hF := zi_t hF hc
      refine z_bipush (v := -2) hx hb dX8_need_20 (by decide +kernel) ?_
      exact z_iret hX hr hlocks hH hF rfl dX8_need_22
  · have hF := zi_t hF hc
    refine z_iconst hx hb dX8_need_8 ?_
    exact z_iret hX hr hlocks hH hF rfl dX8_need_9
set_option maxHeartbeats 4000000 in
set_option maxRecDepth 100000 in
theorem ctX8_common (l : Launch) (D : va_G) (cs : Nat → ClassId) (α : Nat → Nat) (N : Nat) (M : zM) (a1 : Int) (a2 : Int) (r : Int) (hF : fX8_common N a1 a2 = some r) : Met l yX8_common wsX8_common ({ frames := 0, cells := 0, slots := 0, locals := 0 }) (zPre D cs LNo α M [.int (nZ a1), .int (nZ a2)]) (zQi D cs LNo α r M) 0 0 (zA LNo.length α) := by
  refine z_met (cc := cX8_common) (maxL := 5) (ret := (some .int)) (by decide +kernel) rfl RX8 rfl (Nat.le_of_ble_eq_true rfl) ?_
  intro p e s m below meth c ls hX hr hlocks hH hl
  have hx := hX.1.1
  have hb := hX.1.2.1
  have hts := hX.1.2.2.2.2
  have L4 : ∀ (n : Nat) (x2 : Int) (x3 : Int), fX8_common_4 N n x2 x3 = some r → zGo p l e (headSpec wsX8_common ({ frames := 0, cells := 0, slots := 0, locals := 0 })).room s m ([.int (nZ a1), .int (nZ a2)] : List Value).toArray below meth c (MQ below (zQi D cs LNo α r M) ([.int (nZ a1), .int (nZ a2)] : List Value).toArray s 0 0 (zA LNo.length α)) D cs LNo α (zA LNo.length α) 5 4 [(2, .int (nZ x2)), (3, .int (nZ x3))] [] M := by
    intro  n
    induction n with
    | zero =>
      intro x2 x3 hF
      have hF : (none : Option Int) = some r := hF
      cases hF
    | succ n hk4 =>
      intro x2 x3 hF H locs ls hH hl
      have hF : sX8_common_4 N (fun x2 x3 => fX8_common_4 N n x2 x3) x2 x3 = some r := hF
      unfold sX8_common_4 at hF
      refine lv_iload_n hx hb dX8_common_4 rfl (lv_at hl 1 rfl) ?_
      obtain ⟨h3, hF⟩ := zg_e hF
      refine z_if_eq (tgt := 21) hx hb h3 dX8_common_5 (by decide) (fun hc => ?_) (fun hc => ?_)
      · have hF := zi_t hF hc
        refine lv_iload_n hx hb dX8_common_21 rfl (lv_at hl 0 rfl) ?_
        exact z_iretP hX hr hlocks hH hF rfl dX8_common_22
      · have hF := zi_f hF hc
        refine lv_iload_n hx hb dX8_common_8 rfl (lv_at hl 0 rfl) ?_
        refine lv_iload_n hx hb dX8_common_9 rfl (lv_at hl 1 rfl) ?_
        obtain ⟨h4, hF⟩ := zg_e hF
        refine z_irem hx hb h4.1 h4.2 dX8_common_10 ?_
        obtain ⟨v5, ev5, hF⟩ := zl_e hF
        refine z_istore ev5 (lv' := [(4, .int (nZ v5)), (2, .int (nZ x2)), (3, .int (nZ x3))]) hx hb dX8_common_11 hl (by decide) rfl (fun ls hl => ?_)
        refine lv_iload_n hx hb dX8_common_13 rfl (lv_at hl 2 rfl) ?_
        obtain ⟨v6, ev6, hF⟩ := zl_e hF
        refine z_istore_n ev6 (lv' := [(2, .int (nZ v6)), (4, .int (nZ v5)), (3, .int (nZ x3))]) hx hb dX8_common_14 rfl hl (by decide) rfl (fun ls hl => ?_)
        refine lv_iload hx hb dX8_common_15 (lv_at hl 1 rfl) ?_
        obtain ⟨v7, ev7, hF⟩ := zl_e hF
        refine z_istore_n ev7 (lv' := [(3, .int (nZ v7)), (2, .int (nZ v6)), (4, .int (nZ v5))]) hx hb dX8_common_17 rfl hl (by decide) rfl (fun ls hl => ?_)
        refine lv_goto (tgt := 4) hx hb dX8_common_18 (by decide) ?_
        exact hk4 v6 v7 hF _ _ _ hH (lv_sub hl [1, 0] rfl)
  have hl : lv_has ls 5 [(0, .int (nZ a1)), (1, .int (nZ a2))] := hl
  unfold fX8_common at hF
  refine lv_iload_n hx hb dX8_common_0 rfl (lv_at hl 0 rfl) ?_
  obtain ⟨v1, ev1, hF⟩ := zl_e hF
  refine z_istore_n ev1 (lv' := [(2, .int (nZ v1)), (0, .int (nZ a1)), (1, .int (nZ a2))]) hx hb dX8_common_1 rfl hl (by decide) rfl (fun ls hl => ?_)
  refine lv_iload_n hx hb dX8_common_2 rfl (lv_at hl 2 rfl) ?_
  obtain ⟨v2, ev2, hF⟩ := zl_e hF
  refine z_istore_n ev2 (lv' := [(3, .int (nZ v2)), (2, .int (nZ v1)), (0, .int (nZ a1)), (1, .int (nZ a2))]) hx hb dX8_common_3 rfl hl (by decide) rfl (fun ls hl => ?_)
  exact L4 N v1 v2 hF _ _ _ hH (lv_sub hl [1, 0] rfl)
set_option maxHeartbeats 4000000 in
set_option maxRecDepth 100000 in
theorem ctX8_part (l : Launch) (D : va_G) (cs : Nat → ClassId) (α : Nat → Nat) (N : Nat) (M : zM) (a1 : Int) (a2 : Int) (a3 : Int) (r : Int) (hF : fX8_part N a1 a2 a3 = some r) : Met l yX8_part wsX8_part ({ frames := 1, cells := 0, slots := 0, locals := 24 }) (zPre D cs LNo α M [.int (nZ a1), .int (nZ a2), .int (nZ a3)]) (zQl D cs LNo α r M) 0 0 (zA LNo.length α) := by
  refine z_met (cc := cX8_part) (maxL := 4) (ret := (some .long)) (by decide +kernel) rfl RX8 rfl (Nat.le_of_ble_eq_true rfl) ?_
  intro p e s m below meth c ls hX hr hlocks hH hl
  have hx := hX.1.1
  have hb := hX.1.2.1
  have hts := hX.1.2.2.2.2
  have hl : lv_has ls 4 [(0, .int (nZ a1)), (1, .int (nZ a2)), (2, .int (nZ a3))] := hl
  unfold fX8_part at hF
  refine lv_iload_n hx hb dX8_part_0 rfl (lv_at hl 0 rfl) ?_
  refine lv_iload_n hx hb dX8_part_1 rfl (lv_at hl 1 rfl) ?_
  obtain ⟨r1, c2, hF⟩ := zc_e hF
  refine z_callSi (As := [.int (nZ a1), .int (nZ a2)]) (is := []) (Ll := []) hX hH rfl (ctX8_common l D cs (zsb [] α) N (zpk [] M) a1 a2 r1 c2) (va_cwS 2 hts gX8_part_X8_common rfl rfl rfl (by decide +kernel) ⟨Nat.le_of_ble_eq_true rfl, Nat.le_of_ble_eq_true rfl⟩) rfl hl.1 (Nat.le_of_ble_eq_true rfl) rfl dX8_part_2 ⟨Nat.zero_le _, Nat.zero_le _⟩ (fun H locs hH => ?_)
  have hH : zH D cs LNo α M (zA LNo.length α) s H locs := hH
  obtain ⟨v3, ev3, hF⟩ := zl_e hF
  refine z_istore_n ev3 (lv' := [(3, .int (nZ v3)), (0, .int (nZ a1)), (1, .int (nZ a2)), (2, .int (nZ a3))]) hx hb dX8_part_5 rfl hl (by decide) rfl (fun ls hl => ?_)
  refine lv_iload_n hx hb dX8_part_6 rfl (lv_at hl 3 rfl) ?_
  obtain ⟨h4, hF⟩ := zg_e hF
  refine z_if_ne (tgt := 17) hx hb h4 dX8_part_7 (by decide) (fun hc => ?_) (fun hc => ?_)
  · have hF := zi_f hF hc
    refine lv_iload_n hx hb dX8_part_17 rfl (lv_at hl 2 rfl) ?_
    refine lv_iload_n hx hb dX8_part_18 rfl (lv_at hl 0 rfl) ?_
    obtain ⟨h5, hF⟩ := zg_e hF
    refine z_idiv hx hb h5.1 h5.2 dX8_part_19 ?_
    obtain ⟨h6, hF⟩ := zg_e hF
    refine z_i2l hx hb h6 dX8_part_20 ?_
    exact z_lretP hX hr hlocks hH hF dX8_part_21
  · have hF := zi_t hF hc
    refine lv_iload_n hx hb dX8_part_10 rfl (lv_at hl 1 rfl) ?_
    refine lv_iload_n hx hb dX8_part_11 rfl (lv_at hl 0 rfl) ?_
    obtain ⟨h7, hF⟩ := zg_e hF
    refine z_idiv hx hb h7.1 h7.2 dX8_part_12 ?_
    obtain ⟨h8, hF⟩ := zg_e hF
    refine z_i2l hx hb h8 dX8_part_13 ?_
    refine lv_goto (tgt := 21) hx hb dX8_part_14 (by decide) ?_
    exact z_lretP hX hr hlocks hH hF dX8_part_21
theorem flX8_odds_11 : zF RX8 wsX8_odds 11 8 0 := ⟨_, TX8, _, rfl, by decide +kernel, by decide +kernel, by decide, rfl⟩
theorem flX8_odds_15 : zF RX8 wsX8_odds 15 8 1 := ⟨_, TX8, _, rfl, by decide +kernel, by decide +kernel, by decide, rfl⟩
set_option maxHeartbeats 4000000 in
set_option maxRecDepth 100000 in
theorem ctX8_odds (l : Launch) (D : va_G) (cs : Nat → ClassId) (α : Nat → Nat) (N : Nat) (M : zM) (a1 : Int) (a2 : Int) (a3 : Int) (r : Int) (M' : zM) (hF : fX8_odds N a1 a2 a3 M = some (r, M')) : Met l yX8_odds wsX8_odds ({ frames := 6, cells := 0, slots := 0, locals := 136 }) (zPre D cs LM α M [.ref (α 0), .int (nZ a1), .int (nZ a2), .int (nZ a3)]) (zQl D cs LM α r M') 0 0 (zA LM.length α) := by
  refine z_met (cc := cX8_odds) (maxL := 6) (ret := (some .long)) (by decide +kernel) rfl RX8 rfl (Nat.le_of_ble_eq_true rfl) ?_
  intro p e s m below meth c ls hX hr hlocks hH hl
  have hx := hX.1.1
  have hb := hX.1.2.1
  have hts := hX.1.2.2.2.2
  have J91 : ∀ (k48 : Int → Int → Int → Int → Int → zM → Option (Int × zM)) (hk48 : ∀ (x1 : Int) (x2 : Int) (x3 : Int) (x4 : Int) (x5 : Int) (M0 : zM), k48 x1 x2 x3 x4 x5 M0 = some (r, M') → zGo p l e (headSpec wsX8_odds ({ frames := 6, cells := 0, slots := 0, locals := 136 })).room s m ([.ref (α 0), .int (nZ a1), .int (nZ a2), .int (nZ a3)] : List Value).toArray below meth c (MQ below (zQl D cs LM α r M') ([.ref (α 0), .int (nZ a1), .int (nZ a2), .int (nZ a3)] : List Value).toArray s 0 0 (zA LM.length α)) D cs LM α (zA LM.length α) 6 48 [(0, .ref (α 0)), (1, .int (nZ x1)), (2, .int (nZ x2)), (3, .int (nZ x3)), (4, .int (nZ x4)), (5, .int (nZ x5))] [] M0) (x1 : Int) (x2 : Int) (x3 : Int) (x5 : Int) (y0 : Int) (y1 : Int) (M0 : zM), sX8_odds_91 N k48 x1 x2 x3 x5 y0 y1 M0 = some (r, M') → zGo p l e (headSpec wsX8_odds ({ frames := 6, cells := 0, slots := 0, locals := 136 })).room s m ([.ref (α 0), .int (nZ a1), .int (nZ a2), .int (nZ a3)] : List Value).toArray below meth c (MQ below (zQl D cs LM α r M') ([.ref (α 0), .int (nZ a1), .int (nZ a2), .int (nZ a3)] : List Value).toArray s 0 0 (zA LM.length α)) D cs LM α (zA LM.length α) 6 91 [(0, .ref (α 0)), (1, .int (nZ x1)), (2, .int (nZ x2)), (3, .int (nZ x3)), (5, .int (nZ x5))] [.int (nZ y0), .int (nZ y1)] M0 := by
    intro k48 hk48 x1 x2 x3 x5 y0 y1 M0 hF H locs ls hH hl
    unfold sX8_odds_91 at hF
    refine z_iadd hx hb dX8_odds_91 ?_
    obtain ⟨v28, ev28, hF⟩ := zl_e hF
    refine z_istore ev28 (lv' := [(4, .int (nZ v28)), (0, .ref (α 0)), (1, .int (nZ x1)), (2, .int (nZ x2)), (3, .int (nZ x3)), (5, .int (nZ x5))]) hx hb dX8_odds_92 hl (by decide) rfl (fun ls hl => ?_)
    refine lv_aload_n hx hb dX8_odds_94 rfl (lv_at hl 1 rfl) ?_
    refine z_getr hX hH 0 1 2 rfl rfl flX8_odds_15 dX8_odds_95 ?_
    refine lv_aload_n hx hb dX8_odds_98 rfl (lv_at hl 1 rfl) ?_
    refine z_getr hX hH 0 0 1 rfl rfl flX8_odds_11 dX8_odds_99 ?_
    obtain ⟨M30, c29, hF⟩ := zc_e hF
    obtain ⟨M31, eM31, hF⟩ := zl_e hF
    refine z_callSv (As := [.ref (α 2), .ref (α 1)]) (is := is_2n1_1n1) hX hH em_LM_is_2n1_1n1 (ctX8_copy l D cs (zsb is_2n1_1n1 α) N (zpk is_2n1_1n1 M0)  M30 c29) (va_cwS 2 hts gX8_odds_X8_copy rfl rfl rfl (by decide +kernel) ⟨Nat.le_of_ble_eq_true rfl, Nat.le_of_ble_eq_true rfl⟩) rfl hl.1 (Nat.le_of_ble_eq_true rfl) rfl dX8_odds_102 ⟨Nat.zero_le _, Nat.zero_le _⟩ (fun H locs hH => ?_)
    rw [← eM31] at hH
    obtain ⟨v32, ev32, hF⟩ := zl_e hF
    refine z_iinc ev32 (lv' := [(5, .int (nZ v32)), (4, .int (nZ v28)), (0, .ref (α 0)), (1, .int (nZ x1)), (2, .int (nZ x2)), (3, .int (nZ x3))]) hx hb dX8_odds_105 hl (k := 5) rfl (by decide) rfl (fun ls hl => ?_)
    refine lv_goto (tgt := 48) hx hb dX8_odds_108 (by decide) ?_
    exact hk48 x1 x2 x3 v28 v32 M31 hF _ _ _ hH (lv_sub hl [2, 3, 4, 5, 1, 0] rfl)
  have L48 : ∀ (n : Nat) (x1 : Int) (x2 : Int) (x3 : Int) (x4 : Int) (x5 : Int) (M0 : zM), fX8_odds_48 N n x1 x2 x3 x4 x5 M0 = some (r, M') → zGo p l e (headSpec wsX8_odds ({ frames := 6, cells := 0, slots := 0, locals := 136 })).room s m ([.ref (α 0), .int (nZ a1), .int (nZ a2), .int (nZ a3)] : List Value).toArray below meth c (MQ below (zQl D cs LM α r M') ([.ref (α 0), .int (nZ a1), .int (nZ a2), .int (nZ a3)] : List Value).toArray s 0 0 (zA LM.length α)) D cs LM α (zA LM.length α) 6 48 [(0, .ref (α 0)), (1, .int (nZ x1)), (2, .int (nZ x2)), (3, .int (nZ x3)), (4, .int (nZ x4)), (5, .int (nZ x5))] [] M0 := by
    intro  n
    induction n with
    | zero =>
      intro x1 x2 x3 x4 x5 M0 hF
      have hF : (none : Option (Int × zM)) = some (r, M') := hF
      cases hF
    | succ n hk48 =>
      intro x1 x2 x3 x4 x5 M0 hF H locs ls hH hl
      have hF : sX8_odds_48 N (fun x1 x2 x3 x4 x5 M0 => fX8_odds_48 N n x1 x2 x3 x4 x5 M0) x1 x2 x3 x4 x5 M0 = some (r, M') := hF
      unfold sX8_odds_48 at hF
      refine lv_iload hx hb dX8_odds_48 (lv_at hl 5 rfl) ?_
      refine lv_aload_n hx hb dX8_odds_50 rfl (lv_at hl 0 rfl) ?_
      refine z_getr hX hH 0 1 2 rfl rfl flX8_odds_15 dX8_odds_51 ?_
      refine z_sipush (v := 3200) hx hb dX8_odds_54 (by decide +kernel) ?_
      refine z_iald hX hH 2 3253 rfl (by decide) (by decide) dX8_odds_57 ?_
      obtain ⟨h16, hF⟩ := zg_e hF
      obtain ⟨h17, hF⟩ := zg_e hF
      refine z_icmp_gt (tgt := 111) hx hb h16 h17 dX8_odds_58 (by decide) (fun hc => ?_) (fun hc => ?_)
      · have hF := zi_t hF hc
        refine lv_iload hx hb dX8_odds_111 (lv_at hl 4 rfl) ?_
        refine lv_aload_n hx hb dX8_odds_113 rfl (lv_at hl 0 rfl) ?_
        refine z_getr hX hH 0 0 1 rfl rfl flX8_odds_11 dX8_odds_114 ?_
        refine z_sipush (v := 3200) hx hb dX8_odds_117 (by decide +kernel) ?_
        refine z_iald hX hH 1 3253 rfl (by decide) (by decide) dX8_odds_120 ?_
        refine z_iconst hx hb dX8_odds_121 ?_
        refine z_iadd hx hb dX8_odds_122 ?_
        refine lv_iload_n hx hb dX8_odds_123 rfl (lv_at hl 3 rfl) ?_
        obtain ⟨r18, c19, hF⟩ := zc_e hF
        refine z_callSl (As := [.int (nZ x4), .int (nZ ((M0 1 3200) + (1:Int))), .int (nZ x3)]) (is := []) (Ll := []) hX hH rfl (ctX8_part l D cs (zsb [] α) N (zpk [] M0) x4 ((M0 1 3200) + (1:Int)) x3 r18 c19) (va_cwS 3 hts gX8_odds_X8_part rfl rfl rfl (by decide +kernel) ⟨Nat.le_of_ble_eq_true rfl, Nat.le_of_ble_eq_true rfl⟩) rfl hl.1 (Nat.le_of_ble_eq_true rfl) rfl dX8_odds_124 ⟨Nat.zero_le _, Nat.zero_le _⟩ (fun H locs hH => ?_)
        have hH : zH D cs LM α M0 (zA LM.length α) s H locs := hH
        exact z_lret hX hr hlocks hH hF dX8_odds_127
      · have hF := zi_f hF hc
        refine lv_aload_n hx hb dX8_odds_61 rfl (lv_at hl 0 rfl) ?_
        refine z_getr hX hH 0 0 1 rfl rfl flX8_odds_11 dX8_odds_62 ?_
        refine z_sipush (v := 3201) hx hb dX8_odds_65 (by decide +kernel) ?_
        refine lv_iload hx hb dX8_odds_68 (lv_at hl 5 rfl) ?_
        obtain ⟨M20, eM20, hF⟩ := zl_e hF
        refine z_iast hX hH 1 3253 eM20 rfl (by decide) (by decide) dX8_odds_70 (fun H locs hH => ?_)
        refine lv_aload_n hx hb dX8_odds_71 rfl (lv_at hl 0 rfl) ?_
        obtain ⟨M22, c21, hF⟩ := zc_e hF
        refine z_sameVv (As := []) hX hH 0 8 (ctX8_trim l D cs α N M20  M22 c21) (cwV 0 hts gX8_odds_X8_trim rfl rfl rfl (by decide +kernel) ⟨Nat.le_of_ble_eq_true rfl, Nat.le_of_ble_eq_true rfl⟩) rfl rfl rfl hl.1 (Nat.le_of_ble_eq_true rfl) rfl dX8_odds_72 ⟨Nat.zero_le _, Nat.zero_le _⟩ (fun H locs hH => ?_)
        refine lv_iload hx hb dX8_odds_75 (lv_at hl 4 rfl) ?_
        refine lv_aload_n hx hb dX8_odds_77 rfl (lv_at hl 0 rfl) ?_
        refine lv_iload_n hx hb dX8_odds_78 rfl (lv_at hl 1 rfl) ?_
        obtain ⟨r25, M24, c23, hF⟩ := zc2_e hF
        refine z_sameVi (As := [.int (nZ x1)]) hX hH 0 8 (ctX8_runs l D cs α N M22 x1 r25 M24 c23) (cwV 1 hts gX8_odds_X8_runs rfl rfl rfl (by decide +kernel) ⟨Nat.le_of_ble_eq_true rfl, Nat.le_of_ble_eq_true rfl⟩) rfl rfl rfl hl.1 (Nat.le_of_ble_eq_true rfl) rfl dX8_odds_79 ⟨Nat.zero_le _, Nat.zero_le _⟩ (fun H locs hH => ?_)
        refine lv_iload_n hx hb dX8_odds_82 rfl (lv_at hl 2 rfl) ?_
        obtain ⟨h26, hF⟩ := zg_e hF
        obtain ⟨h27, hF⟩ := zg_e hF
        refine z_icmp_lt (tgt := 90) hx hb h26 h27 dX8_odds_83 (by decide) (fun hc => ?_) (fun hc => ?_)
        · have hF := zi_t hF hc
          refine z_iconst hx hb dX8_odds_90 ?_
          exact J91 (fun x1 x2 x3 x4 x5 M0 => fX8_odds_48 N n x1 x2 x3 x4 x5 M0) hk48 x1 x2 x3 x5 (0:Int) x4 M24 hF _ _ _ hH (lv_sub hl [0, 1, 2, 3, 5] rfl)
        · have hF := zi_f hF hc
          refine z_iconst hx hb dX8_odds_86 ?_
          refine lv_goto (tgt := 91) hx hb dX8_odds_87 (by decide) ?_
          exact J91 (fun x1 x2 x3 x4 x5 M0 => fX8_odds_48 N n x1 x2 x3 x4 x5 M0) hk48 x1 x2 x3 x5 (1:Int) x4 M24 hF _ _ _ hH (lv_sub hl [0, 1, 2, 3, 5] rfl)
  have hl : lv_has ls 6 [(0, .ref (α 0)), (1, .int (nZ a1)), (2, .int (nZ a2)), (3, .int (nZ a3))] := hl
  unfold fX8_odds at hF
  refine lv_aload_n hx hb dX8_odds_0 rfl (lv_at hl 0 rfl) ?_
  refine lv_iload_n hx hb dX8_odds_1 rfl (lv_at hl 1 rfl) ?_
  obtain ⟨r3, M2, c1, hF⟩ := zc2_e hF
  refine z_sameVi (As := [.int (nZ a1)]) hX hH 0 8 (ctX8_isTrace l D cs α N M a1 r3 M2 c1) (cwV 1 hts gX8_odds_X8_isTrace rfl rfl rfl (by decide +kernel) ⟨Nat.le_of_ble_eq_true rfl, Nat.le_of_ble_eq_true rfl⟩) rfl rfl rfl hl.1 (Nat.le_of_ble_eq_true rfl) rfl dX8_odds_2 ⟨Nat.zero_le _, Nat.zero_le _⟩ (fun H locs hH => ?_)
  obtain ⟨h4, hF⟩ := zg_e hF
  refine z_if_eq (tgt := 27) hx hb h4 dX8_odds_5 (by decide) (fun hc => ?_) (fun hc => ?_)
  · have hF := zi_t hF hc
    refine z_ldc2 (v := (-9223372036854775808:Int)) (n := -9223372036854775808) hx hb hX.1.2.2.2.1 (hts (.constantLong RX8 104 (-9223372036854775808)) (by decide +kernel)) (by decide +kernel) dX8_odds_27 ?_
    exact z_lret hX hr hlocks hH hF dX8_odds_30
  · have hF := zi_f hF hc
    refine lv_iload_n hx hb dX8_odds_8 rfl (lv_at hl 2 rfl) ?_
    refine z_iconst hx hb dX8_odds_9 ?_
    refine z_bipush (v := 20) hx hb dX8_odds_10 (by decide +kernel) ?_
    obtain ⟨r5, c6, hF⟩ := zc_e hF
    refine z_callSi (As := [.int (nZ a2), .int (nZ (0:Int)), .int (nZ (20:Int))]) (is := []) (Ll := []) hX hH rfl (ctX8_in l D cs (zsb [] α) N (zpk [] M2) a2 (0:Int) (20:Int) r5 c6) (va_cwS 3 hts gX8_odds_X8_in rfl rfl rfl (by decide +kernel) ⟨Nat.le_of_ble_eq_true rfl, Nat.le_of_ble_eq_true rfl⟩) rfl hl.1 (Nat.le_of_ble_eq_true rfl) rfl dX8_odds_12 ⟨Nat.zero_le _, Nat.zero_le _⟩ (fun H locs hH => ?_)
    have hH : zH D cs LM α M2 (zA LM.length α) s H locs := hH
    obtain ⟨h7, hF⟩ := zg_e hF
    refine z_if_eq (tgt := 27) hx hb h7 dX8_odds_15 (by decide) (fun hc => ?_) (fun hc => ?_)
    · have hF := zi_t hF hc
      refine z_ldc2 (v := (-9223372036854775808:Int)) (n := -9223372036854775808) hx hb hX.1.2.2.2.1 (hts (.constantLong RX8 104 (-9223372036854775808)) (by decide +kernel)) (by decide +kernel) dX8_odds_27 ?_
      exact z_lret hX hr hlocks hH hF dX8_odds_30
    · have hF := zi_f hF hc
      refine lv_iload_n hx hb dX8_odds_18 rfl (lv_at hl 3 rfl) ?_
      refine z_iconst hx hb dX8_odds_19 ?_
      refine z_iconst hx hb dX8_odds_20 ?_
      obtain ⟨r8, c9, hF⟩ := zc_e hF
      refine z_callSi (As := [.int (nZ a3), .int (nZ (0:Int)), .int (nZ (1:Int))]) (is := []) (Ll := []) hX hH rfl (ctX8_in l D cs (zsb [] α) N (zpk [] M2) a3 (0:Int) (1:Int) r8 c9) (va_cwS 3 hts gX8_odds_X8_in rfl rfl rfl (by decide +kernel) ⟨Nat.le_of_ble_eq_true rfl, Nat.le_of_ble_eq_true rfl⟩) rfl hl.1 (Nat.le_of_ble_eq_true rfl) rfl dX8_odds_21 ⟨Nat.zero_le _, Nat.zero_le _⟩ (fun H locs hH => ?_)
      have hH : zH D cs LM α M2 (zA LM.length α) s H locs := hH
      obtain ⟨h10, hF⟩ := zg_e hF
      refine z_if_ne (tgt := 31) hx hb h10 dX8_odds_24 (by decide) (fun hc => ?_) (fun hc => ?_)
      · have hF := zi_f hF hc
        refine lv_aload_n hx hb dX8_odds_31 rfl (lv_at hl 0 rfl) ?_
        refine z_getr hX hH 0 0 1 rfl rfl flX8_odds_11 dX8_odds_32 ?_
        refine lv_aload_n hx hb dX8_odds_35 rfl (lv_at hl 0 rfl) ?_
        refine z_getr hX hH 0 1 2 rfl rfl flX8_odds_15 dX8_odds_36 ?_
        obtain ⟨M12, c11, hF⟩ := zc_e hF
        obtain ⟨M13, eM13, hF⟩ := zl_e hF
        refine z_callSv (As := [.ref (α 1), .ref (α 2)]) (is := is_1n1_2n1) hX hH em_LM_is_1n1_2n1 (ctX8_copy l D cs (zsb is_1n1_2n1 α) N (zpk is_1n1_2n1 M2)  M12 c11) (va_cwS 2 hts gX8_odds_X8_copy rfl rfl rfl (by decide +kernel) ⟨Nat.le_of_ble_eq_true rfl, Nat.le_of_ble_eq_true rfl⟩) rfl hl.1 (Nat.le_of_ble_eq_true rfl) rfl dX8_odds_39 ⟨Nat.zero_le _, Nat.zero_le _⟩ (fun H locs hH => ?_)
        rw [← eM13] at hH
        refine z_iconst hx hb dX8_odds_42 ?_
        obtain ⟨v14, ev14, hF⟩ := zl_e hF
        refine z_istore ev14 (lv' := [(4, .int (nZ v14)), (0, .ref (α 0)), (1, .int (nZ a1)), (2, .int (nZ a2)), (3, .int (nZ a3))]) hx hb dX8_odds_43 hl (by decide) rfl (fun ls hl => ?_)
        refine z_iconst hx hb dX8_odds_45 ?_
        obtain ⟨v15, ev15, hF⟩ := zl_e hF
        refine z_istore ev15 (lv' := [(5, .int (nZ v15)), (4, .int (nZ v14)), (0, .ref (α 0)), (1, .int (nZ a1)), (2, .int (nZ a2)), (3, .int (nZ a3))]) hx hb dX8_odds_46 hl (by decide) rfl (fun ls hl => ?_)
        exact L48 N a1 a2 a3 v14 v15 M13 hF _ _ _ hH (lv_sub hl [2, 3, 4, 5, 1, 0] rfl)
      · have hF := zi_t hF hc
        refine z_ldc2 (v := (-9223372036854775808:Int)) (n := -9223372036854775808) hx hb hX.1.2.2.2.1 (hts (.constantLong RX8 104 (-9223372036854775808)) (by decide +kernel)) (by decide +kernel) dX8_odds_27 ?_
        exact z_lret hX hr hlocks hH hF dX8_odds_30
theorem flX8_manyAt_11 : zF RX8 wsX8_manyAt 11 8 0 := ⟨_, TX8, _, rfl, by decide +kernel, by decide +kernel, by decide, rfl⟩
set_option maxHeartbeats 4000000 in
set_option maxRecDepth 100000 in
theorem ctX8_manyAt (l : Launch) (D : va_G) (cs : Nat → ClassId) (α : Nat → Nat) (N : Nat) (M : zM) (a1 : Int) (r : Int) (M' : zM) (hF : fX8_manyAt N a1 M = some (r, M')) : Met l yX8_manyAt wsX8_manyAt ({ frames := 0, cells := 0, slots := 0, locals := 0 }) (zPre D cs LM α M [.ref (α 0), .int (nZ a1)]) (zQi D cs LM α r M') 0 0 (zA LM.length α) := by
  refine z_met (cc := cX8_manyAt) (maxL := 4) (ret := (some .int)) (by decide +kernel) rfl RX8 rfl (Nat.le_of_ble_eq_true rfl) ?_
  intro p e s m below meth c ls hX hr hlocks hH hl
  have hx := hX.1.1
  have hb := hX.1.2.1
  have hts := hX.1.2.2.2.2
  have J29 : ∀ (k4 : Int → Int → Int → zM → Option (Int × zM)) (hk4 : ∀ (x1 : Int) (x2 : Int) (x3 : Int) (M0 : zM), k4 x1 x2 x3 M0 = some (r, M') → zGo p l e (headSpec wsX8_manyAt ({ frames := 0, cells := 0, slots := 0, locals := 0 })).room s m ([.ref (α 0), .int (nZ a1)] : List Value).toArray below meth c (MQ below (zQi D cs LM α r M') ([.ref (α 0), .int (nZ a1)] : List Value).toArray s 0 0 (zA LM.length α)) D cs LM α (zA LM.length α) 4 4 [(0, .ref (α 0)), (1, .int (nZ x1)), (2, .int (nZ x2)), (3, .int (nZ x3))] [] M0) (x1 : Int) (x3 : Int) (y0 : Int) (y1 : Int) (M0 : zM), sX8_manyAt_29 N k4 x1 x3 y0 y1 M0 = some (r, M') → zGo p l e (headSpec wsX8_manyAt ({ frames := 0, cells := 0, slots := 0, locals := 0 })).room s m ([.ref (α 0), .int (nZ a1)] : List Value).toArray below meth c (MQ below (zQi D cs LM α r M') ([.ref (α 0), .int (nZ a1)] : List Value).toArray s 0 0 (zA LM.length α)) D cs LM α (zA LM.length α) 4 29 [(0, .ref (α 0)), (1, .int (nZ x1)), (3, .int (nZ x3))] [.int (nZ y0), .int (nZ y1)] M0 := by
    intro k4 hk4 x1 x3 y0 y1 M0 hF H locs ls hH hl
    unfold sX8_manyAt_29 at hF
    refine z_iadd hx hb dX8_manyAt_29 ?_
    obtain ⟨v7, ev7, hF⟩ := zl_e hF
    refine z_istore_n ev7 (lv' := [(2, .int (nZ v7)), (0, .ref (α 0)), (1, .int (nZ x1)), (3, .int (nZ x3))]) hx hb dX8_manyAt_30 rfl hl (by decide) rfl (fun ls hl => ?_)
    obtain ⟨v8, ev8, hF⟩ := zl_e hF
    refine z_iinc ev8 (lv' := [(3, .int (nZ v8)), (2, .int (nZ v7)), (0, .ref (α 0)), (1, .int (nZ x1))]) hx hb dX8_manyAt_31 hl (k := 3) rfl (by decide) rfl (fun ls hl => ?_)
    refine lv_goto (tgt := 4) hx hb dX8_manyAt_34 (by decide) ?_
    exact hk4 x1 v7 v8 M0 hF _ _ _ hH (lv_sub hl [2, 3, 1, 0] rfl)
  have L4 : ∀ (n : Nat) (x1 : Int) (x2 : Int) (x3 : Int) (M0 : zM), fX8_manyAt_4 N n x1 x2 x3 M0 = some (r, M') → zGo p l e (headSpec wsX8_manyAt ({ frames := 0, cells := 0, slots := 0, locals := 0 })).room s m ([.ref (α 0), .int (nZ a1)] : List Value).toArray below meth c (MQ below (zQi D cs LM α r M') ([.ref (α 0), .int (nZ a1)] : List Value).toArray s 0 0 (zA LM.length α)) D cs LM α (zA LM.length α) 4 4 [(0, .ref (α 0)), (1, .int (nZ x1)), (2, .int (nZ x2)), (3, .int (nZ x3))] [] M0 := by
    intro  n
    induction n with
    | zero =>
      intro x1 x2 x3 M0 hF
      have hF : (none : Option (Int × zM)) = some (r, M') := hF
      cases hF
    | succ n hk4 =>
      intro x1 x2 x3 M0 hF H locs ls hH hl
      have hF : sX8_manyAt_4 N (fun x1 x2 x3 M0 => fX8_manyAt_4 N n x1 x2 x3 M0) x1 x2 x3 M0 = some (r, M') := hF
      unfold sX8_manyAt_4 at hF
      refine lv_iload_n hx hb dX8_manyAt_4 rfl (lv_at hl 3 rfl) ?_
      refine z_sipush (v := 400) hx hb dX8_manyAt_5 (by decide +kernel) ?_
      obtain ⟨h3, hF⟩ := zg_e hF
      refine z_icmp_ge (tgt := 37) hx hb h3 (by decide) dX8_manyAt_8 (by decide) (fun hc => ?_) (fun hc => ?_)
      · have hF := zi_t hF hc
        refine lv_iload_n hx hb dX8_manyAt_37 rfl (lv_at hl 2 rfl) ?_
        exact z_iret hX hr hlocks hH hF rfl dX8_manyAt_38
      · have hF := zi_f hF hc
        refine lv_iload_n hx hb dX8_manyAt_11 rfl (lv_at hl 2 rfl) ?_
        refine lv_aload_n hx hb dX8_manyAt_12 rfl (lv_at hl 0 rfl) ?_
        refine z_getr hX hH 0 0 1 rfl rfl flX8_manyAt_11 dX8_manyAt_13 ?_
        refine z_iconst hx hb dX8_manyAt_16 ?_
        refine lv_iload_n hx hb dX8_manyAt_17 rfl (lv_at hl 3 rfl) ?_
        refine z_iadd hx hb dX8_manyAt_18 ?_
        obtain ⟨h4, hF⟩ := zg_e hF
        refine z_iald hX hH 1 3253 rfl h4 (by decide) dX8_manyAt_19 ?_
        refine lv_iload_n hx hb dX8_manyAt_20 rfl (lv_at hl 1 rfl) ?_
        obtain ⟨h5, hF⟩ := zg_e hF
        obtain ⟨h6, hF⟩ := zg_e hF
        refine z_icmp_ne (tgt := 28) hx hb h5 h6 dX8_manyAt_21 (by decide) (fun hc => ?_) (fun hc => ?_)
        · have hF := zi_f hF hc
          refine z_iconst hx hb dX8_manyAt_28 ?_
          exact J29 (fun x1 x2 x3 M0 => fX8_manyAt_4 N n x1 x2 x3 M0) hk4 x1 x3 (0:Int) x2 M0 hF _ _ _ hH (lv_sub hl [0, 1, 3] rfl)
        · have hF := zi_t hF hc
          refine z_iconst hx hb dX8_manyAt_24 ?_
          refine lv_goto (tgt := 29) hx hb dX8_manyAt_25 (by decide) ?_
          exact J29 (fun x1 x2 x3 M0 => fX8_manyAt_4 N n x1 x2 x3 M0) hk4 x1 x3 (1:Int) x2 M0 hF _ _ _ hH (lv_sub hl [0, 1, 3] rfl)
  have hl : lv_has ls 4 [(0, .ref (α 0)), (1, .int (nZ a1))] := hl
  unfold fX8_manyAt at hF
  refine z_iconst hx hb dX8_manyAt_0 ?_
  obtain ⟨v1, ev1, hF⟩ := zl_e hF
  refine z_istore_n ev1 (lv' := [(2, .int (nZ v1)), (0, .ref (α 0)), (1, .int (nZ a1))]) hx hb dX8_manyAt_1 rfl hl (by decide) rfl (fun ls hl => ?_)
  refine z_iconst hx hb dX8_manyAt_2 ?_
  obtain ⟨v2, ev2, hF⟩ := zl_e hF
  refine z_istore_n ev2 (lv' := [(3, .int (nZ v2)), (2, .int (nZ v1)), (0, .ref (α 0)), (1, .int (nZ a1))]) hx hb dX8_manyAt_3 rfl hl (by decide) rfl (fun ls hl => ?_)
  exact L4 N a1 v1 v2 M hF _ _ _ hH (lv_sub hl [2, 3, 1, 0] rfl)
theorem flX8_mean_11 : zF RX8 wsX8_mean 11 8 0 := ⟨_, TX8, _, rfl, by decide +kernel, by decide +kernel, by decide, rfl⟩
set_option maxHeartbeats 4000000 in
set_option maxRecDepth 100000 in
theorem ctX8_mean (l : Launch) (D : va_G) (cs : Nat → ClassId) (α : Nat → Nat) (N : Nat) (M : zM) (a1 : Int) (a2 : Int) (r : Int) (M' : zM) (hF : fX8_mean N a1 a2 M = some (r, M')) : Met l yX8_mean wsX8_mean ({ frames := 2, cells := 0, slots := 0, locals := 47 }) (zPre D cs LM α M [.ref (α 0), .int (nZ a1), .int (nZ a2)]) (zQl D cs LM α r M') 0 0 (zA LM.length α) := by
  refine z_met (cc := cX8_mean) (maxL := 5) (ret := (some .long)) (by decide +kernel) rfl RX8 rfl (Nat.le_of_ble_eq_true rfl) ?_
  intro p e s m below meth c ls hX hr hlocks hH hl
  have hx := hX.1.1
  have hb := hX.1.2.1
  have hts := hX.1.2.2.2.2
  have J72 : ∀ (k35 : Int → Int → Int → Int → zM → Option (Int × zM)) (hk35 : ∀ (x1 : Int) (x2 : Int) (x3 : Int) (x4 : Int) (M0 : zM), k35 x1 x2 x3 x4 M0 = some (r, M') → zGo p l e (headSpec wsX8_mean ({ frames := 2, cells := 0, slots := 0, locals := 47 })).room s m ([.ref (α 0), .int (nZ a1), .int (nZ a2)] : List Value).toArray below meth c (MQ below (zQl D cs LM α r M') ([.ref (α 0), .int (nZ a1), .int (nZ a2)] : List Value).toArray s 0 0 (zA LM.length α)) D cs LM α (zA LM.length α) 5 35 [(0, .ref (α 0)), (1, .int (nZ x1)), (2, .int (nZ x2)), (3, .int (nZ x3)), (4, .int (nZ x4))] [] M0) (x1 : Int) (x2 : Int) (x4 : Int) (y0 : Int) (y1 : Int) (M0 : zM), sX8_mean_72 N k35 x1 x2 x4 y0 y1 M0 = some (r, M') → zGo p l e (headSpec wsX8_mean ({ frames := 2, cells := 0, slots := 0, locals := 47 })).room s m ([.ref (α 0), .int (nZ a1), .int (nZ a2)] : List Value).toArray below meth c (MQ below (zQl D cs LM α r M') ([.ref (α 0), .int (nZ a1), .int (nZ a2)] : List Value).toArray s 0 0 (zA LM.length α)) D cs LM α (zA LM.length α) 5 72 [(0, .ref (α 0)), (1, .int (nZ x1)), (2, .int (nZ x2)), (4, .int (nZ x4))] [.int (nZ y0), .int (nZ y1)] M0 := by
    intro k35 hk35 x1 x2 x4 y0 y1 M0 hF H locs ls hH hl
    unfold sX8_mean_72 at hF
    refine z_iadd hx hb dX8_mean_72 ?_
    obtain ⟨v22, ev22, hF⟩ := zl_e hF
    refine z_istore_n ev22 (lv' := [(3, .int (nZ v22)), (0, .ref (α 0)), (1, .int (nZ x1)), (2, .int (nZ x2)), (4, .int (nZ x4))]) hx hb dX8_mean_73 rfl hl (by decide) rfl (fun ls hl => ?_)
    obtain ⟨v23, ev23, hF⟩ := zl_e hF
    refine z_iinc ev23 (lv' := [(4, .int (nZ v23)), (3, .int (nZ v22)), (0, .ref (α 0)), (1, .int (nZ x1)), (2, .int (nZ x2))]) hx hb dX8_mean_74 hl (k := 4) rfl (by decide) rfl (fun ls hl => ?_)
    refine lv_goto (tgt := 35) hx hb dX8_mean_77 (by decide) ?_
    exact hk35 x1 x2 v22 v23 M0 hF _ _ _ hH (lv_sub hl [2, 3, 4, 1, 0] rfl)
  have L35 : ∀ (n : Nat) (x1 : Int) (x2 : Int) (x3 : Int) (x4 : Int) (M0 : zM), fX8_mean_35 N n x1 x2 x3 x4 M0 = some (r, M') → zGo p l e (headSpec wsX8_mean ({ frames := 2, cells := 0, slots := 0, locals := 47 })).room s m ([.ref (α 0), .int (nZ a1), .int (nZ a2)] : List Value).toArray below meth c (MQ below (zQl D cs LM α r M') ([.ref (α 0), .int (nZ a1), .int (nZ a2)] : List Value).toArray s 0 0 (zA LM.length α)) D cs LM α (zA LM.length α) 5 35 [(0, .ref (α 0)), (1, .int (nZ x1)), (2, .int (nZ x2)), (3, .int (nZ x3)), (4, .int (nZ x4))] [] M0 := by
    intro  n
    induction n with
    | zero =>
      intro x1 x2 x3 x4 M0 hF
      have hF : (none : Option (Int × zM)) = some (r, M') := hF
      cases hF
    | succ n hk35 =>
      intro x1 x2 x3 x4 M0 hF H locs ls hH hl
      have hF : sX8_mean_35 N (fun x1 x2 x3 x4 M0 => fX8_mean_35 N n x1 x2 x3 x4 M0) x1 x2 x3 x4 M0 = some (r, M') := hF
      unfold sX8_mean_35 at hF
      refine lv_iload hx hb dX8_mean_35 (lv_at hl 4 rfl) ?_
      refine z_sipush (v := 400) hx hb dX8_mean_37 (by decide +kernel) ?_
      obtain ⟨h13, hF⟩ := zg_e hF
      refine z_icmp_ge (tgt := 80) hx hb h13 (by decide) dX8_mean_40 (by decide) (fun hc => ?_) (fun hc => ?_)
      · have hF := zi_t hF hc
        refine lv_iload_n hx hb dX8_mean_80 rfl (lv_at hl 3 rfl) ?_
        refine lv_aload_n hx hb dX8_mean_81 rfl (lv_at hl 0 rfl) ?_
        refine lv_iload_n hx hb dX8_mean_82 rfl (lv_at hl 1 rfl) ?_
        obtain ⟨r16, M15, c14, hF⟩ := zc2_e hF
        refine z_sameVi (As := [.int (nZ x1)]) hX hH 0 8 (ctX8_manyAt l D cs α N M0 x1 r16 M15 c14) (cwV 1 hts gX8_mean_X8_manyAt rfl rfl rfl (by decide +kernel) ⟨Nat.le_of_ble_eq_true rfl, Nat.le_of_ble_eq_true rfl⟩) rfl rfl rfl hl.1 (Nat.le_of_ble_eq_true rfl) rfl dX8_mean_83 ⟨Nat.zero_le _, Nat.zero_le _⟩ (fun H locs hH => ?_)
        refine lv_iload_n hx hb dX8_mean_86 rfl (lv_at hl 2 rfl) ?_
        obtain ⟨r17, c18, hF⟩ := zc_e hF
        refine z_callSl (As := [.int (nZ x3), .int (nZ r16), .int (nZ x2)]) (is := []) (Ll := []) hX hH rfl (ctX8_part l D cs (zsb [] α) N (zpk [] M15) x3 r16 x2 r17 c18) (va_cwS 3 hts gX8_mean_X8_part rfl rfl rfl (by decide +kernel) ⟨Nat.le_of_ble_eq_true rfl, Nat.le_of_ble_eq_true rfl⟩) rfl hl.1 (Nat.le_of_ble_eq_true rfl) rfl dX8_mean_87 ⟨Nat.zero_le _, Nat.zero_le _⟩ (fun H locs hH => ?_)
        have hH : zH D cs LM α M15 (zA LM.length α) s H locs := hH
        exact z_lret hX hr hlocks hH hF dX8_mean_90
      · have hF := zi_f hF hc
        refine lv_iload_n hx hb dX8_mean_43 rfl (lv_at hl 3 rfl) ?_
        refine lv_aload_n hx hb dX8_mean_44 rfl (lv_at hl 0 rfl) ?_
        refine z_getr hX hH 0 0 1 rfl rfl flX8_mean_11 dX8_mean_45 ?_
        refine z_iconst hx hb dX8_mean_48 ?_
        refine lv_iload hx hb dX8_mean_49 (lv_at hl 4 rfl) ?_
        refine z_iadd hx hb dX8_mean_51 ?_
        obtain ⟨h19, hF⟩ := zg_e hF
        refine z_iald hX hH 1 3253 rfl h19 (by decide) dX8_mean_52 ?_
        refine lv_iload_n hx hb dX8_mean_53 rfl (lv_at hl 1 rfl) ?_
        obtain ⟨h20, hF⟩ := zg_e hF
        obtain ⟨h21, hF⟩ := zg_e hF
        refine z_icmp_ne (tgt := 71) hx hb h20 h21 dX8_mean_54 (by decide) (fun hc => ?_) (fun hc => ?_)
        · have hF := zi_f hF hc
          refine z_iconst hx hb dX8_mean_71 ?_
          exact J72 (fun x1 x2 x3 x4 M0 => fX8_mean_35 N n x1 x2 x3 x4 M0) hk35 x1 x2 x4 (0:Int) x3 M0 hF _ _ _ hH (lv_sub hl [0, 1, 2, 4] rfl)
        · have hF := zi_t hF hc
          refine lv_aload_n hx hb dX8_mean_57 rfl (lv_at hl 0 rfl) ?_
          refine z_getr hX hH 0 0 1 rfl rfl flX8_mean_11 dX8_mean_58 ?_
          refine z_sipush (v := 1200) hx hb dX8_mean_61 (by decide +kernel) ?_
          refine lv_iload hx hb dX8_mean_64 (lv_at hl 4 rfl) ?_
          refine z_iadd hx hb dX8_mean_66 ?_
          obtain ⟨h24, hF⟩ := zg_e hF
          refine z_iald hX hH 1 3253 rfl h24 (by decide) dX8_mean_67 ?_
          refine lv_goto (tgt := 72) hx hb dX8_mean_68 (by decide) ?_
          exact J72 (fun x1 x2 x3 x4 M0 => fX8_mean_35 N n x1 x2 x3 x4 M0) hk35 x1 x2 x4 (M0 1 ((1200:Int) + x4).toNat) x3 M0 hF _ _ _ hH (lv_sub hl [0, 1, 2, 4] rfl)
  have hl : lv_has ls 5 [(0, .ref (α 0)), (1, .int (nZ a1)), (2, .int (nZ a2))] := hl
  unfold fX8_mean at hF
  refine lv_iload_n hx hb dX8_mean_0 rfl (lv_at hl 1 rfl) ?_
  refine z_iconst hx hb dX8_mean_1 ?_
  refine z_iconst hx hb dX8_mean_2 ?_
  obtain ⟨r1, c2, hF⟩ := zc_e hF
  refine z_callSi (As := [.int (nZ a1), .int (nZ (1:Int)), .int (nZ (2:Int))]) (is := []) (Ll := []) hX hH rfl (ctX8_in l D cs (zsb [] α) N (zpk [] M) a1 (1:Int) (2:Int) r1 c2) (va_cwS 3 hts gX8_mean_X8_in rfl rfl rfl (by decide +kernel) ⟨Nat.le_of_ble_eq_true rfl, Nat.le_of_ble_eq_true rfl⟩) rfl hl.1 (Nat.le_of_ble_eq_true rfl) rfl dX8_mean_3 ⟨Nat.zero_le _, Nat.zero_le _⟩ (fun H locs hH => ?_)
  have hH : zH D cs LM α M (zA LM.length α) s H locs := hH
  obtain ⟨h3, hF⟩ := zg_e hF
  refine z_if_eq (tgt := 26) hx hb h3 dX8_mean_6 (by decide) (fun hc => ?_) (fun hc => ?_)
  · have hF := zi_t hF hc
    refine z_ldc2 (v := (-9223372036854775808:Int)) (n := -9223372036854775808) hx hb hX.1.2.2.2.1 (hts (.constantLong RX8 104 (-9223372036854775808)) (by decide +kernel)) (by decide +kernel) dX8_mean_26 ?_
    exact z_lret hX hr hlocks hH hF dX8_mean_29
  · have hF := zi_f hF hc
    refine lv_iload_n hx hb dX8_mean_9 rfl (lv_at hl 2 rfl) ?_
    refine z_iconst hx hb dX8_mean_10 ?_
    refine z_iconst hx hb dX8_mean_11 ?_
    obtain ⟨r4, c5, hF⟩ := zc_e hF
    refine z_callSi (As := [.int (nZ a2), .int (nZ (0:Int)), .int (nZ (1:Int))]) (is := []) (Ll := []) hX hH rfl (ctX8_in l D cs (zsb [] α) N (zpk [] M) a2 (0:Int) (1:Int) r4 c5) (va_cwS 3 hts gX8_mean_X8_in rfl rfl rfl (by decide +kernel) ⟨Nat.le_of_ble_eq_true rfl, Nat.le_of_ble_eq_true rfl⟩) rfl hl.1 (Nat.le_of_ble_eq_true rfl) rfl dX8_mean_12 ⟨Nat.zero_le _, Nat.zero_le _⟩ (fun H locs hH => ?_)
    have hH : zH D cs LM α M (zA LM.length α) s H locs := hH
    obtain ⟨h6, hF⟩ := zg_e hF
    refine z_if_eq (tgt := 26) hx hb h6 dX8_mean_15 (by decide) (fun hc => ?_) (fun hc => ?_)
    · have hF := zi_t hF hc
      refine z_ldc2 (v := (-9223372036854775808:Int)) (n := -9223372036854775808) hx hb hX.1.2.2.2.1 (hts (.constantLong RX8 104 (-9223372036854775808)) (by decide +kernel)) (by decide +kernel) dX8_mean_26 ?_
      exact z_lret hX hr hlocks hH hF dX8_mean_29
    · have hF := zi_f hF hc
      refine lv_aload_n hx hb dX8_mean_18 rfl (lv_at hl 0 rfl) ?_
      refine lv_iload_n hx hb dX8_mean_19 rfl (lv_at hl 1 rfl) ?_
      obtain ⟨r9, M8, c7, hF⟩ := zc2_e hF
      refine z_sameVi (As := [.int (nZ a1)]) hX hH 0 8 (ctX8_manyAt l D cs α N M a1 r9 M8 c7) (cwV 1 hts gX8_mean_X8_manyAt rfl rfl rfl (by decide +kernel) ⟨Nat.le_of_ble_eq_true rfl, Nat.le_of_ble_eq_true rfl⟩) rfl rfl rfl hl.1 (Nat.le_of_ble_eq_true rfl) rfl dX8_mean_20 ⟨Nat.zero_le _, Nat.zero_le _⟩ (fun H locs hH => ?_)
      obtain ⟨h10, hF⟩ := zg_e hF
      refine z_if_ne (tgt := 30) hx hb h10 dX8_mean_23 (by decide) (fun hc => ?_) (fun hc => ?_)
      · have hF := zi_f hF hc
        refine z_iconst hx hb dX8_mean_30 ?_
        obtain ⟨v11, ev11, hF⟩ := zl_e hF
        refine z_istore_n ev11 (lv' := [(3, .int (nZ v11)), (0, .ref (α 0)), (1, .int (nZ a1)), (2, .int (nZ a2))]) hx hb dX8_mean_31 rfl hl (by decide) rfl (fun ls hl => ?_)
        refine z_iconst hx hb dX8_mean_32 ?_
        obtain ⟨v12, ev12, hF⟩ := zl_e hF
        refine z_istore ev12 (lv' := [(4, .int (nZ v12)), (3, .int (nZ v11)), (0, .ref (α 0)), (1, .int (nZ a1)), (2, .int (nZ a2))]) hx hb dX8_mean_33 hl (by decide) rfl (fun ls hl => ?_)
        exact L35 N a1 a2 v11 v12 M8 hF _ _ _ hH (lv_sub hl [2, 3, 4, 1, 0] rfl)
      · have hF := zi_t hF hc
        refine z_ldc2 (v := (-9223372036854775808:Int)) (n := -9223372036854775808) hx hb hX.1.2.2.2.1 (hts (.constantLong RX8 104 (-9223372036854775808)) (by decide +kernel)) (by decide +kernel) dX8_mean_26 ?_
        exact z_lret hX hr hlocks hH hF dX8_mean_29
theorem flX8_book_11 : zF RX8 wsX8_book 11 8 0 := ⟨_, TX8, _, rfl, by decide +kernel, by decide +kernel, by decide, rfl⟩
set_option maxHeartbeats 4000000 in
set_option maxRecDepth 100000 in
theorem ctX8_book (l : Launch) (D : va_G) (cs : Nat → ClassId) (α : Nat → Nat) (N : Nat) (M : zM) (a1 : Int) (a2 : Int) (a3 : Int) (r : Int) (M' : zM) (hF : fX8_book N a1 a2 a3 M = some (r, M')) : Met l yX8_book wsX8_book ({ frames := 2, cells := 0, slots := 0, locals := 43 }) (zPre D cs LM α M [.ref (α 0), .int (nZ a1), .int (nZ a2), .int (nZ a3)]) (zQi D cs LM α r M') 0 0 (zA LM.length α) := by
  refine z_met (cc := cX8_book) (maxL := 4) (ret := (some .int)) (by decide +kernel) rfl RX8 rfl (Nat.le_of_ble_eq_true rfl) ?_
  intro p e s m below meth c ls hX hr hlocks hH hl
  have hx := hX.1.1
  have hb := hX.1.2.1
  have hts := hX.1.2.2.2.2
  have hl : lv_has ls 4 [(0, .ref (α 0)), (1, .int (nZ a1)), (2, .int (nZ a2)), (3, .int (nZ a3))] := hl
  unfold fX8_book at hF
  refine lv_iload_n hx hb dX8_book_0 rfl (lv_at hl 1 rfl) ?_
  refine z_iconst hx hb dX8_book_1 ?_
  obtain ⟨h1, hF⟩ := zg_e hF
  refine z_icmp_ne (tgt := 16) hx hb h1 (by decide) dX8_book_2 (by decide) (fun hc => ?_) (fun hc => ?_)
  · have hF := zi_f hF hc
    refine lv_iload_n hx hb dX8_book_16 rfl (lv_at hl 1 rfl) ?_
    refine lv_iload_n hx hb dX8_book_17 rfl (lv_at hl 2 rfl) ?_
    obtain ⟨r2, c3, hF⟩ := zc_e hF
    refine z_callSi (As := [.int (nZ a1), .int (nZ a2)]) (is := []) (Ll := []) hX hH rfl (ctX8_isKey l D cs (zsb [] α) N (zpk [] M) a1 a2 r2 c3) (va_cwS 2 hts gX8_book_X8_isKey rfl rfl rfl (by decide +kernel) ⟨Nat.le_of_ble_eq_true rfl, Nat.le_of_ble_eq_true rfl⟩) rfl hl.1 (Nat.le_of_ble_eq_true rfl) rfl dX8_book_18 ⟨Nat.zero_le _, Nat.zero_le _⟩ (fun H locs hH => ?_)
    have hH : zH D cs LM α M (zA LM.length α) s H locs := hH
    obtain ⟨h4, hF⟩ := zg_e hF
    refine z_if_ne (tgt := 26) hx hb h4 dX8_book_21 (by decide) (fun hc => ?_) (fun hc => ?_)
    · have hF := zi_f hF hc
      refine lv_iload_n hx hb dX8_book_26 rfl (lv_at hl 3 rfl) ?_
      refine z_iconst hx hb dX8_book_27 ?_
      refine z_iconst hx hb dX8_book_28 ?_
      obtain ⟨r5, c6, hF⟩ := zc_e hF
      refine z_callSi (As := [.int (nZ a3), .int (nZ (0:Int)), .int (nZ (4:Int))]) (is := []) (Ll := []) hX hH rfl (ctX8_in l D cs (zsb [] α) N (zpk [] M) a3 (0:Int) (4:Int) r5 c6) (va_cwS 3 hts gX8_book_X8_in rfl rfl rfl (by decide +kernel) ⟨Nat.le_of_ble_eq_true rfl, Nat.le_of_ble_eq_true rfl⟩) rfl hl.1 (Nat.le_of_ble_eq_true rfl) rfl dX8_book_29 ⟨Nat.zero_le _, Nat.zero_le _⟩ (fun H locs hH => ?_)
      have hH : zH D cs LM α M (zA LM.length α) s H locs := hH
      obtain ⟨h7, hF⟩ := zg_e hF
      refine z_if_ne (tgt := 38) hx hb h7 dX8_book_32 (by decide) (fun hc => ?_) (fun hc => ?_)
      · have hF := zi_f hF hc
        refine lv_aload_n hx hb dX8_book_38 rfl (lv_at hl 0 rfl) ?_
        refine z_getr hX hH 0 0 1 rfl rfl flX8_book_11 dX8_book_39 ?_
        refine z_sipush (v := 3236) hx hb dX8_book_42 (by decide +kernel) ?_
        refine z_iald hX hH 1 3253 rfl (by decide) (by decide) dX8_book_45 ?_
        refine z_bipush (v := 8) hx hb dX8_book_46 (by decide +kernel) ?_
        obtain ⟨h8, hF⟩ := zg_e hF
        refine z_icmp_ne (tgt := 54) hx hb h8 (by decide) dX8_book_48 (by decide) (fun hc => ?_) (fun hc => ?_)
        · have hF := zi_f hF hc
          refine lv_aload_n hx hb dX8_book_54 rfl (lv_at hl 0 rfl) ?_
          refine z_getr hX hH 0 0 1 rfl rfl flX8_book_11 dX8_book_55 ?_
          refine z_sipush (v := 3237) hx hb dX8_book_58 (by decide +kernel) ?_
          refine z_iconst hx hb dX8_book_61 ?_
          refine lv_aload_n hx hb dX8_book_62 rfl (lv_at hl 0 rfl) ?_
          refine z_getr hX hH 0 0 1 rfl rfl flX8_book_11 dX8_book_63 ?_
          refine z_sipush (v := 3236) hx hb dX8_book_66 (by decide +kernel) ?_
          refine z_iald hX hH 1 3253 rfl (by decide) (by decide) dX8_book_69 ?_
          refine z_imul hx hb dX8_book_70 ?_
          refine z_iadd hx hb dX8_book_71 ?_
          refine z_bipush (v := 100) hx hb dX8_book_72 (by decide +kernel) ?_
          refine lv_iload_n hx hb dX8_book_74 rfl (lv_at hl 1 rfl) ?_
          refine z_imul hx hb dX8_book_75 ?_
          refine lv_iload_n hx hb dX8_book_76 rfl (lv_at hl 2 rfl) ?_
          refine z_iadd hx hb dX8_book_77 ?_
          obtain ⟨h9, hF⟩ := zg_e hF
          obtain ⟨M10, eM10, hF⟩ := zl_e hF
          refine z_iast hX hH 1 3253 eM10 rfl h9 (by decide) dX8_book_78 (fun H locs hH => ?_)
          refine lv_aload_n hx hb dX8_book_79 rfl (lv_at hl 0 rfl) ?_
          refine z_getr hX hH 0 0 1 rfl rfl flX8_book_11 dX8_book_80 ?_
          refine z_sipush (v := 3237) hx hb dX8_book_83 (by decide +kernel) ?_
          refine z_iconst hx hb dX8_book_86 ?_
          refine lv_aload_n hx hb dX8_book_87 rfl (lv_at hl 0 rfl) ?_
          refine z_getr hX hH 0 0 1 rfl rfl flX8_book_11 dX8_book_88 ?_
          refine z_sipush (v := 3236) hx hb dX8_book_91 (by decide +kernel) ?_
          refine z_iald hX hH 1 3253 rfl (by decide) (by decide) dX8_book_94 ?_
          refine z_imul hx hb dX8_book_95 ?_
          refine z_iadd hx hb dX8_book_96 ?_
          refine z_iconst hx hb dX8_book_97 ?_
          refine z_iadd hx hb dX8_book_98 ?_
          refine lv_iload_n hx hb dX8_book_99 rfl (lv_at hl 3 rfl) ?_
          obtain ⟨h11, hF⟩ := zg_e hF
          obtain ⟨M12, eM12, hF⟩ := zl_e hF
          refine z_iast hX hH 1 3253 eM12 rfl h11 (by decide) dX8_book_100 (fun H locs hH => ?_)
          refine lv_aload_n hx hb dX8_book_101 rfl (lv_at hl 0 rfl) ?_
          refine z_getr hX hH 0 0 1 rfl rfl flX8_book_11 dX8_book_102 ?_
          refine z_sipush (v := 3236) hx hb dX8_book_105 (by decide +kernel) ?_
          refine lv_dup2_11 hx hb dX8_book_108 rfl rfl ?_
          refine z_iald hX hH 1 3253 rfl (by decide) (by decide) dX8_book_109 ?_
          refine z_iconst hx hb dX8_book_110 ?_
          refine z_iadd hx hb dX8_book_111 ?_
          obtain ⟨M13, eM13, hF⟩ := zl_e hF
          refine z_iast hX hH 1 3253 eM13 rfl (by decide) (by decide) dX8_book_112 (fun H locs hH => ?_)
          refine lv_aload_n hx hb dX8_book_113 rfl (lv_at hl 0 rfl) ?_
          refine z_getr hX hH 0 0 1 rfl rfl flX8_book_11 dX8_book_114 ?_
          refine z_sipush (v := 3236) hx hb dX8_book_117 (by decide +kernel) ?_
          refine z_iald hX hH 1 3253 rfl (by decide) (by decide) dX8_book_120 ?_
          exact z_iret hX hr hlocks hH hF rfl dX8_book_121
        · have hF := zi_t hF hc
          refine z_bipush (v := -4) hx hb dX8_book_51 (by decide +kernel) ?_
          exact z_iret hX hr hlocks hH hF rfl dX8_book_53
      · have hF := zi_t hF hc
        refine z_bipush (v := -2) hx hb dX8_book_35 (by decide +kernel) ?_
        exact z_iret hX hr hlocks hH hF rfl dX8_book_37
    · have hF := zi_t hF hc
      refine z_iconst hx hb dX8_book_24 ?_
      exact z_iret hX hr hlocks hH hF rfl dX8_book_25
  · have hF := zi_t hF hc
    refine lv_aload_n hx hb dX8_book_5 rfl (lv_at hl 0 rfl) ?_
    refine z_getr hX hH 0 0 1 rfl rfl flX8_book_11 dX8_book_6 ?_
    refine z_sipush (v := 3236) hx hb dX8_book_9 (by decide +kernel) ?_
    refine z_iconst hx hb dX8_book_12 ?_
    obtain ⟨M14, eM14, hF⟩ := zl_e hF
    refine z_iast hX hH 1 3253 eM14 rfl (by decide) (by decide) dX8_book_13 (fun H locs hH => ?_)
    refine z_iconst hx hb dX8_book_14 ?_
    exact z_iret hX hr hlocks hH hF rfl dX8_book_15
theorem flX8_looked_11 : zF RX8 wsX8_looked 11 8 0 := ⟨_, TX8, _, rfl, by decide +kernel, by decide +kernel, by decide, rfl⟩
set_option maxHeartbeats 4000000 in
set_option maxRecDepth 100000 in
theorem ctX8_looked (l : Launch) (D : va_G) (cs : Nat → ClassId) (α : Nat → Nat) (N : Nat) (M : zM) (r : Int) (M' : zM) (hF : fX8_looked N M = some (r, M')) : Met l yX8_looked wsX8_looked ({ frames := 0, cells := 0, slots := 0, locals := 0 }) (zPre D cs LM α M [.ref (α 0)]) (zQi D cs LM α r M') 0 0 (zA LM.length α) := by
  refine z_met (cc := cX8_looked) (maxL := 2) (ret := (some .int)) (by decide +kernel) rfl RX8 rfl (Nat.le_of_ble_eq_true rfl) ?_
  intro p e s m below meth c ls hX hr hlocks hH hl
  have hx := hX.1.1
  have hb := hX.1.2.1
  have hts := hX.1.2.2.2.2
  have L2 : ∀ (n : Nat) (x1 : Int) (M0 : zM), fX8_looked_2 N n x1 M0 = some (r, M') → zGo p l e (headSpec wsX8_looked ({ frames := 0, cells := 0, slots := 0, locals := 0 })).room s m ([.ref (α 0)] : List Value).toArray below meth c (MQ below (zQi D cs LM α r M') ([.ref (α 0)] : List Value).toArray s 0 0 (zA LM.length α)) D cs LM α (zA LM.length α) 2 2 [(0, .ref (α 0)), (1, .int (nZ x1))] [] M0 := by
    intro  n
    induction n with
    | zero =>
      intro x1 M0 hF
      have hF : (none : Option (Int × zM)) = some (r, M') := hF
      cases hF
    | succ n hk2 =>
      intro x1 M0 hF H locs ls hH hl
      have hF : sX8_looked_2 N (fun x1 M0 => fX8_looked_2 N n x1 M0) x1 M0 = some (r, M') := hF
      unfold sX8_looked_2 at hF
      refine lv_iload_n hx hb dX8_looked_2 rfl (lv_at hl 1 rfl) ?_
      refine lv_aload_n hx hb dX8_looked_3 rfl (lv_at hl 0 rfl) ?_
      refine z_getr hX hH 0 0 1 rfl rfl flX8_looked_11 dX8_looked_4 ?_
      refine z_sipush (v := 3236) hx hb dX8_looked_7 (by decide +kernel) ?_
      refine z_iald hX hH 1 3253 rfl (by decide) (by decide) dX8_looked_10 ?_
      obtain ⟨h2, hF⟩ := zg_e hF
      obtain ⟨h3, hF⟩ := zg_e hF
      refine z_icmp_ge (tgt := 58) hx hb h2 h3 dX8_looked_11 (by decide) (fun hc => ?_) (fun hc => ?_)
      · have hF := zi_t hF hc
        refine z_bipush (v := -5) hx hb dX8_looked_58 (by decide +kernel) ?_
        exact z_iret hX hr hlocks hH hF rfl dX8_looked_60
      · have hF := zi_f hF hc
        refine lv_aload_n hx hb dX8_looked_14 rfl (lv_at hl 0 rfl) ?_
        refine z_getr hX hH 0 0 1 rfl rfl flX8_looked_11 dX8_looked_15 ?_
        refine z_iconst hx hb dX8_looked_18 ?_
        refine lv_aload_n hx hb dX8_looked_19 rfl (lv_at hl 0 rfl) ?_
        refine z_getr hX hH 0 0 1 rfl rfl flX8_looked_11 dX8_looked_20 ?_
        refine z_sipush (v := 3237) hx hb dX8_looked_23 (by decide +kernel) ?_
        refine z_iconst hx hb dX8_looked_26 ?_
        refine lv_iload_n hx hb dX8_looked_27 rfl (lv_at hl 1 rfl) ?_
        refine z_imul hx hb dX8_looked_28 ?_
        refine z_iadd hx hb dX8_looked_29 ?_
        obtain ⟨h4, hF⟩ := zg_e hF
        refine z_iald hX hH 1 3253 rfl h4 (by decide) dX8_looked_30 ?_
        refine z_iadd hx hb dX8_looked_31 ?_
        obtain ⟨h5, hF⟩ := zg_e hF
        refine z_iald hX hH 1 3253 rfl h5 (by decide) dX8_looked_32 ?_
        refine lv_aload_n hx hb dX8_looked_33 rfl (lv_at hl 0 rfl) ?_
        refine z_getr hX hH 0 0 1 rfl rfl flX8_looked_11 dX8_looked_34 ?_
        refine z_sipush (v := 3237) hx hb dX8_looked_37 (by decide +kernel) ?_
        refine z_iconst hx hb dX8_looked_40 ?_
        refine lv_iload_n hx hb dX8_looked_41 rfl (lv_at hl 1 rfl) ?_
        refine z_imul hx hb dX8_looked_42 ?_
        refine z_iadd hx hb dX8_looked_43 ?_
        refine z_iconst hx hb dX8_looked_44 ?_
        refine z_iadd hx hb dX8_looked_45 ?_
        obtain ⟨h6, hF⟩ := zg_e hF
        refine z_iald hX hH 1 3253 rfl h6 (by decide) dX8_looked_46 ?_
        obtain ⟨h7, hF⟩ := zg_e hF
        obtain ⟨h8, hF⟩ := zg_e hF
        refine z_icmp_eq (tgt := 52) hx hb h7 h8 dX8_looked_47 (by decide) (fun hc => ?_) (fun hc => ?_)
        · have hF := zi_t hF hc
          obtain ⟨v9, ev9, hF⟩ := zl_e hF
          refine z_iinc ev9 (lv' := [(1, .int (nZ v9)), (0, .ref (α 0))]) hx hb dX8_looked_52 hl (k := 1) rfl (by decide) rfl (fun ls hl => ?_)
          refine lv_goto (tgt := 2) hx hb dX8_looked_55 (by decide) ?_
          exact hk2 v9 M0 hF _ _ _ hH (lv_sub hl [1, 0] rfl)
        · have hF := zi_f hF hc
          refine lv_iload_n hx hb dX8_looked_50 rfl (lv_at hl 1 rfl) ?_
          exact z_iret hX hr hlocks hH hF rfl dX8_looked_51
  have hl : lv_has ls 2 [(0, .ref (α 0))] := hl
  unfold fX8_looked at hF
  refine z_iconst hx hb dX8_looked_0 ?_
  obtain ⟨v1, ev1, hF⟩ := zl_e hF
  refine z_istore_n ev1 (lv' := [(1, .int (nZ v1)), (0, .ref (α 0))]) hx hb dX8_looked_1 rfl hl (by decide) rfl (fun ls hl => ?_)
  exact L2 N v1 M hF _ _ _ hH (lv_sub hl [1, 0] rfl)
set_option maxHeartbeats 4000000 in
set_option maxRecDepth 100000 in
theorem ctX8_isTape (l : Launch) (D : va_G) (cs : Nat → ClassId) (α : Nat → Nat) (N : Nat) (M : zM) (a1 : Int) (r : Int) (hF : fX8_isTape N a1 = some r) : Met l yX8_isTape wsX8_isTape ({ frames := 1, cells := 0, slots := 0, locals := 22 }) (zPre D cs LNo α M [.int (nZ a1)]) (zQi D cs LNo α r M) 0 0 (zA LNo.length α) := by
  refine z_met (cc := cX8_isTape) (maxL := 1) (ret := (some .boolean)) (by decide +kernel) rfl RX8 rfl (Nat.le_of_ble_eq_true rfl) ?_
  intro p e s m below meth c ls hX hr hlocks hH hl
  have hx := hX.1.1
  have hb := hX.1.2.1
  have hts := hX.1.2.2.2.2
  have hl : lv_has ls 1 [(0, .int (nZ a1))] := hl
  unfold fX8_isTape at hF
  refine lv_iload_n hx hb dX8_isTape_0 rfl (lv_at hl 0 rfl) ?_
  refine z_iconst hx hb dX8_isTape_1 ?_
  refine z_iconst hx hb dX8_isTape_2 ?_
  obtain ⟨r1, c2, hF⟩ := zc_e hF
  refine z_callSi (As := [.int (nZ a1), .int (nZ (0:Int)), .int (nZ (5:Int))]) (is := []) (Ll := []) hX hH rfl (ctX8_in l D cs (zsb [] α) N (zpk [] M) a1 (0:Int) (5:Int) r1 c2) (va_cwS 3 hts gX8_isTape_X8_in rfl rfl rfl (by decide +kernel) ⟨Nat.le_of_ble_eq_true rfl, Nat.le_of_ble_eq_true rfl⟩) rfl hl.1 (Nat.le_of_ble_eq_true rfl) rfl dX8_isTape_3 ⟨Nat.zero_le _, Nat.zero_le _⟩ (fun H locs hH => ?_)
  have hH : zH D cs LNo α M (zA LNo.length α) s H locs := hH
  obtain ⟨h3, hF⟩ := zg_e hF
  exact z_iretP hX hr hlocks hH hF (z_bool h3) dX8_isTape_6
theorem flX8_judge_39 : zF RX8 wsX8_judge 39 8 13 := ⟨_, TX8, _, rfl, by decide +kernel, by decide +kernel, by decide, rfl⟩
theorem flX8_judge_42 : zF RX8 wsX8_judge 42 8 14 := ⟨_, TX8, _, rfl, by decide +kernel, by decide +kernel, by decide, rfl⟩
theorem flX8_judge_47 : zF RX8 wsX8_judge 47 8 15 := ⟨_, TX8, _, rfl, by decide +kernel, by decide +kernel, by decide, rfl⟩
theorem ra_LM_13 : ∀ i : Nat, i < 6 → ([13, 14, 15, 16, 17, 18] : List Nat)[i]? = some (13 + 1 * i) := fun i h => match i, h with | 0, _ => rfl | 1, _ => rfl | 2, _ => rfl | 3, _ => rfl | 4, _ => rfl | 5, _ => rfl | n + 6, h => absurd h (by omega)
theorem fm_LM_13_0 : ∀ i : Nat, i < 6 → LM[13 + 1 * i]? = some (2, 60, []) := fun i h => match i, h with | 0, _ => rfl | 1, _ => rfl | 2, _ => rfl | 3, _ => rfl | 4, _ => rfl | 5, _ => rfl | n + 6, h => absurd h (by omega)
set_option maxHeartbeats 4000000 in
set_option maxRecDepth 100000 in
theorem ctX8_judge (l : Launch) (D : va_G) (cs : Nat → ClassId) (α : Nat → Nat) (N : Nat) (M : zM) (a1 : Int) (a2 : Int) (r : Int) (M' : zM) (hF : fX8_judge N a1 a2 M = some (r, M')) : Met l yX8_judge wsX8_judge ({ frames := 2, cells := 0, slots := 0, locals := 46 }) (zPre D cs LM α M [.ref (α 0), .int (nZ a1), .int (nZ a2)]) (zQi D cs LM α r M') 0 0 (zA LM.length α) := by
  refine z_met (cc := cX8_judge) (maxL := 5) (ret := (some .int)) (by decide +kernel) rfl RX8 rfl (Nat.le_of_ble_eq_true rfl) ?_
  intro p e s m below meth c ls hX hr hlocks hH hl
  have hx := hX.1.1
  have hb := hX.1.2.1
  have hts := hX.1.2.2.2.2
  have J72 : ∀ (x4 : Int) (M0 : zM), sX8_judge_72 N x4 M0 = some (r, M') → zGo p l e (headSpec wsX8_judge ({ frames := 2, cells := 0, slots := 0, locals := 46 })).room s m ([.ref (α 0), .int (nZ a1), .int (nZ a2)] : List Value).toArray below meth c (MQ below (zQi D cs LM α r M') ([.ref (α 0), .int (nZ a1), .int (nZ a2)] : List Value).toArray s 0 0 (zA LM.length α)) D cs LM α (zA LM.length α) 5 72 [(4, .int (nZ x4))] [] M0 := by
    intro x4 M0 hF H locs ls hH hl
    unfold sX8_judge_72 at hF
    refine z_bipush (v := 100) hx hb dX8_judge_72 (by decide +kernel) ?_
    refine lv_iload hx hb dX8_judge_74 (lv_at hl 0 rfl) ?_
    refine z_iadd hx hb dX8_judge_76 ?_
    exact z_iret hX hr hlocks hH hF rfl dX8_judge_77
  have L40 : ∀ (n : Nat) (x1 : Int) (x2 : Int) (x3 : Int) (x4 : Int) (M0 : zM), fX8_judge_40 N n x1 x2 x3 x4 M0 = some (r, M') → zGo p l e (headSpec wsX8_judge ({ frames := 2, cells := 0, slots := 0, locals := 46 })).room s m ([.ref (α 0), .int (nZ a1), .int (nZ a2)] : List Value).toArray below meth c (MQ below (zQi D cs LM α r M') ([.ref (α 0), .int (nZ a1), .int (nZ a2)] : List Value).toArray s 0 0 (zA LM.length α)) D cs LM α (zA LM.length α) 5 40 [(0, .ref (α 0)), (1, .int (nZ x1)), (2, .int (nZ x2)), (3, .int (nZ x3)), (4, .int (nZ x4))] [] M0 := by
    intro  n
    induction n with
    | zero =>
      intro x1 x2 x3 x4 M0 hF
      have hF : (none : Option (Int × zM)) = some (r, M') := hF
      cases hF
    | succ n hk40 =>
      intro x1 x2 x3 x4 M0 hF H locs ls hH hl
      have hF : sX8_judge_40 N (fun x1 x2 x3 x4 M0 => fX8_judge_40 N n x1 x2 x3 x4 M0) x1 x2 x3 x4 M0 = some (r, M') := hF
      unfold sX8_judge_40 at hF
      refine lv_iload hx hb dX8_judge_40 (lv_at hl 4 rfl) ?_
      refine lv_iload_n hx hb dX8_judge_42 rfl (lv_at hl 3 rfl) ?_
      obtain ⟨h11, hF⟩ := zg_e hF
      obtain ⟨h12, hF⟩ := zg_e hF
      refine z_icmp_ge (tgt := 110) hx hb h11 h12 dX8_judge_43 (by decide) (fun hc => ?_) (fun hc => ?_)
      · have hF := zi_t hF hc
        refine z_bipush (v := -5) hx hb dX8_judge_110 (by decide +kernel) ?_
        exact z_iret hX hr hlocks hH hF rfl dX8_judge_112
      · have hF := zi_f hF hc
        refine lv_aload_n hx hb dX8_judge_46 rfl (lv_at hl 0 rfl) ?_
        refine z_getr hX hH 0 13 10 rfl rfl flX8_judge_39 dX8_judge_47 ?_
        refine lv_iload_n hx hb dX8_judge_50 rfl (lv_at hl 1 rfl) ?_
        obtain ⟨h13, hF⟩ := zg_e hF
        refine z_iald hX hH 10 6 rfl h13 (by decide) dX8_judge_51 ?_
        obtain ⟨h14, hF⟩ := zg_e hF
        refine z_if_lt (tgt := 72) hx hb h14 dX8_judge_52 (by decide) (fun hc => ?_) (fun hc => ?_)
        · have hF := zi_t hF hc
          exact J72 x4 M0 hF _ _ _ hH (lv_sub hl [4] rfl)
        · have hF := zi_f hF hc
          refine lv_iload_n hx hb dX8_judge_55 rfl (lv_at hl 2 rfl) ?_
          obtain ⟨h15, hF⟩ := zg_e hF
          refine z_if_lt (tgt := 72) hx hb h15 dX8_judge_56 (by decide) (fun hc => ?_) (fun hc => ?_)
          · have hF := zi_t hF hc
            exact J72 x4 M0 hF _ _ _ hH (lv_sub hl [4] rfl)
          · have hF := zi_f hF hc
            refine lv_iload_n hx hb dX8_judge_59 rfl (lv_at hl 2 rfl) ?_
            refine lv_aload_n hx hb dX8_judge_60 rfl (lv_at hl 0 rfl) ?_
            refine z_getr hX hH 0 14 11 rfl rfl flX8_judge_42 dX8_judge_61 ?_
            refine lv_iload_n hx hb dX8_judge_64 rfl (lv_at hl 1 rfl) ?_
            refine z_iald hX hH 11 6 rfl h13 (by decide) dX8_judge_65 ?_
            refine lv_iload hx hb dX8_judge_66 (lv_at hl 4 rfl) ?_
            refine z_isub hx hb dX8_judge_68 ?_
            obtain ⟨h16, hF⟩ := zg_e hF
            refine z_icmp_lt (tgt := 78) hx hb h15 h16 dX8_judge_69 (by decide) (fun hc => ?_) (fun hc => ?_)
            · have hF := zi_t hF hc
              refine lv_aload_n hx hb dX8_judge_78 rfl (lv_at hl 0 rfl) ?_
              refine z_getr hX hH 0 15 12 rfl rfl flX8_judge_47 dX8_judge_79 ?_
              refine lv_iload_n hx hb dX8_judge_82 rfl (lv_at hl 1 rfl) ?_
              have h17 : x1.toNat < 6 := by have := h13.1; have := h13.2; omega
              refine z_aald (ts := [13, 14, 15, 16, 17, 18]) hX hH 12 5 (13 + 1 * x1.toNat) rfl rfl rfl h13 (by decide) (ra_LM_13 x1.toNat h17) dX8_judge_83 ?_
              refine lv_iload_n hx hb dX8_judge_84 rfl (lv_at hl 2 rfl) ?_
              refine lv_iload hx hb dX8_judge_85 (lv_at hl 4 rfl) ?_
              refine z_iadd hx hb dX8_judge_87 ?_
              obtain ⟨h18, hF⟩ := zg_e hF
              refine z_lald hX hH (13 + 1 * x1.toNat) 60 (fm_LM_13_0 x1.toNat h17) h18 (by decide) dX8_judge_88 ?_
              refine lv_aload_n hx hb dX8_judge_89 rfl (lv_at hl 0 rfl) ?_
              refine z_iconst hx hb dX8_judge_90 ?_
              refine lv_iload hx hb dX8_judge_91 (lv_at hl 4 rfl) ?_
              obtain ⟨r21, M20, c19, hF⟩ := zc2_e hF
              refine z_sameVi (As := [.int (nZ (1:Int)), .int (nZ x4)]) hX hH 0 8 (ctX8_keyAt l D cs α N M0 (1:Int) x4 r21 M20 c19) (cwV 2 hts gX8_judge_X8_keyAt rfl rfl rfl (by decide +kernel) ⟨Nat.le_of_ble_eq_true rfl, Nat.le_of_ble_eq_true rfl⟩) rfl rfl rfl hl.1 (Nat.le_of_ble_eq_true rfl) rfl dX8_judge_93 ⟨Nat.zero_le _, Nat.zero_le _⟩ (fun H locs hH => ?_)
              obtain ⟨h22, hF⟩ := zg_e hF
              refine z_i2l hx hb h22 dX8_judge_96 ?_
              obtain ⟨h23, hF⟩ := zg_e hF
              obtain ⟨h24, hF⟩ := zg_e hF
              refine z_lcmp_eq (tgt := 104) hx hb h23 h24 dX8_judge_97 dX8_judge_98 (by decide) (fun hc => ?_) (fun hc => ?_)
              · have hF := zi_t hF hc
                obtain ⟨v25, ev25, hF⟩ := zl_e hF
                refine z_iinc ev25 (lv' := [(4, .int (nZ v25)), (0, .ref (α 0)), (1, .int (nZ x1)), (2, .int (nZ x2)), (3, .int (nZ x3))]) hx hb dX8_judge_104 hl (k := 4) rfl (by decide) rfl (fun ls hl => ?_)
                refine lv_goto (tgt := 40) hx hb dX8_judge_107 (by decide) ?_
                exact hk40 x1 x2 x3 v25 M20 hF _ _ _ hH (lv_sub hl [1, 2, 3, 4, 0] rfl)
              · have hF := zi_f hF hc
                refine lv_iload hx hb dX8_judge_101 (lv_at hl 4 rfl) ?_
                exact z_iret hX hr hlocks hH hF rfl dX8_judge_103
            · have hF := zi_f hF hc
              exact J72 x4 M0 hF _ _ _ hH (lv_sub hl [4] rfl)
  have J31 : ∀ (x1 : Int) (x2 : Int) (M0 : zM), sX8_judge_31 N x1 x2 M0 = some (r, M') → zGo p l e (headSpec wsX8_judge ({ frames := 2, cells := 0, slots := 0, locals := 46 })).room s m ([.ref (α 0), .int (nZ a1), .int (nZ a2)] : List Value).toArray below meth c (MQ below (zQi D cs LM α r M') ([.ref (α 0), .int (nZ a1), .int (nZ a2)] : List Value).toArray s 0 0 (zA LM.length α)) D cs LM α (zA LM.length α) 5 31 [(0, .ref (α 0)), (1, .int (nZ x1)), (2, .int (nZ x2))] [] M0 := by
    intro x1 x2 M0 hF H locs ls hH hl
    unfold sX8_judge_31 at hF
    refine lv_aload_n hx hb dX8_judge_31 rfl (lv_at hl 0 rfl) ?_
    refine z_iconst hx hb dX8_judge_32 ?_
    obtain ⟨r8, M7, c6, hF⟩ := zc2_e hF
    refine z_sameVi (As := [.int (nZ (1:Int))]) hX hH 0 8 (ctX8_manyAt l D cs α N M0 (1:Int) r8 M7 c6) (cwV 1 hts gX8_judge_X8_manyAt rfl rfl rfl (by decide +kernel) ⟨Nat.le_of_ble_eq_true rfl, Nat.le_of_ble_eq_true rfl⟩) rfl rfl rfl hl.1 (Nat.le_of_ble_eq_true rfl) rfl dX8_judge_33 ⟨Nat.zero_le _, Nat.zero_le _⟩ (fun H locs hH => ?_)
    obtain ⟨v9, ev9, hF⟩ := zl_e hF
    refine z_istore_n ev9 (lv' := [(3, .int (nZ v9)), (0, .ref (α 0)), (1, .int (nZ x1)), (2, .int (nZ x2))]) hx hb dX8_judge_36 rfl hl (by decide) rfl (fun ls hl => ?_)
    refine z_iconst hx hb dX8_judge_37 ?_
    obtain ⟨v10, ev10, hF⟩ := zl_e hF
    refine z_istore ev10 (lv' := [(4, .int (nZ v10)), (3, .int (nZ v9)), (0, .ref (α 0)), (1, .int (nZ x1)), (2, .int (nZ x2))]) hx hb dX8_judge_38 hl (by decide) rfl (fun ls hl => ?_)
    exact L40 N x1 x2 v9 v10 M7 hF _ _ _ hH (lv_sub hl [2, 3, 4, 1, 0] rfl)
  have hl : lv_has ls 5 [(0, .ref (α 0)), (1, .int (nZ a1)), (2, .int (nZ a2))] := hl
  unfold fX8_judge at hF
  refine lv_iload_n hx hb dX8_judge_0 rfl (lv_at hl 1 rfl) ?_
  obtain ⟨r1, c2, hF⟩ := zc_e hF
  refine z_callSi (As := [.int (nZ a1)]) (is := []) (Ll := []) hX hH rfl (ctX8_isTape l D cs (zsb [] α) N (zpk [] M) a1 r1 c2) (va_cwS 1 hts gX8_judge_X8_isTape rfl rfl rfl (by decide +kernel) ⟨Nat.le_of_ble_eq_true rfl, Nat.le_of_ble_eq_true rfl⟩) rfl hl.1 (Nat.le_of_ble_eq_true rfl) rfl dX8_judge_1 ⟨Nat.zero_le _, Nat.zero_le _⟩ (fun H locs hH => ?_)
  have hH : zH D cs LM α M (zA LM.length α) s H locs := hH
  obtain ⟨h3, hF⟩ := zg_e hF
  refine z_if_ne (tgt := 9) hx hb h3 dX8_judge_4 (by decide) (fun hc => ?_) (fun hc => ?_)
  · have hF := zi_f hF hc
    refine lv_aload_n hx hb dX8_judge_9 rfl (lv_at hl 0 rfl) ?_
    refine z_getr hX hH 0 13 10 rfl rfl flX8_judge_39 dX8_judge_10 ?_
    refine lv_iload_n hx hb dX8_judge_13 rfl (lv_at hl 1 rfl) ?_
    obtain ⟨h4, hF⟩ := zg_e hF
    refine z_iald hX hH 10 6 rfl h4 (by decide) dX8_judge_14 ?_
    obtain ⟨h5, hF⟩ := zg_e hF
    refine z_if_lt (tgt := 31) hx hb h5 dX8_judge_15 (by decide) (fun hc => ?_) (fun hc => ?_)
    · have hF := zi_t hF hc
      exact J31 a1 a2 M hF _ _ _ hH (lv_sub hl [0, 1, 2] rfl)
    · have hF := zi_f hF hc
      refine lv_aload_n hx hb dX8_judge_18 rfl (lv_at hl 0 rfl) ?_
      refine z_getr hX hH 0 13 10 rfl rfl flX8_judge_39 dX8_judge_19 ?_
      refine lv_iload_n hx hb dX8_judge_22 rfl (lv_at hl 1 rfl) ?_
      refine z_iald hX hH 10 6 rfl h4 (by decide) dX8_judge_23 ?_
      refine z_iconst hx hb dX8_judge_24 ?_
      refine z_icmp_eq (tgt := 31) hx hb h5 (by decide) dX8_judge_25 (by decide) (fun hc => ?_) (fun hc => ?_)
      · have hF := zi_t hF hc
        exact J31 a1 a2 M hF _ _ _ hH (lv_sub hl [0, 1, 2] rfl)
      · have hF := zi_f hF hc
        refine z_bipush (v := -12) hx hb dX8_judge_28 (by decide +kernel) ?_
        exact z_iret hX hr hlocks hH hF rfl dX8_judge_30
  · have hF := zi_t hF hc
    refine z_iconst hx hb dX8_judge_7 ?_
    exact z_iret hX hr hlocks hH hF rfl dX8_judge_8
theorem flX8_image_11 : zF RX8 wsX8_image 11 8 0 := ⟨_, TX8, _, rfl, by decide +kernel, by decide +kernel, by decide, rfl⟩
theorem flX8_image_18 : zF RX8 wsX8_image 18 8 2 := ⟨_, TX8, _, rfl, by decide +kernel, by decide +kernel, by decide, rfl⟩
theorem em_LM_is_1n1_3n1 : zemb LM LCp is_1n1_3n1 = true := by decide +kernel
theorem fpX8_image_164 : zFp RX8 wsX8_image 164 8 3 .boolean := ⟨_, TX8, _, tyX8, rfl, by decide +kernel, by decide +kernel, by decide, rfl, tyX8_ok, nmX8, rfl, by decide +kernel⟩
set_option maxHeartbeats 4000000 in
set_option maxRecDepth 100000 in
theorem ctX8_image (l : Launch) (D : va_G) (cs : Nat → ClassId) (α : Nat → Nat) (N : Nat) (M : zM) (r : Int) (M' : zM) (hF : fX8_image N M = some (r, M')) : Met l yX8_image wsX8_image ({ frames := 1, cells := 0, slots := 0, locals := 23 }) (zPre D cs LM α M [.ref (α 0)]) (zQi D cs LM α r M') 0 0 (zA LM.length α) := by
  refine z_met (cc := cX8_image) (maxL := 1) (ret := (some .int)) (by decide +kernel) rfl RX8 rfl (Nat.le_of_ble_eq_true rfl) ?_
  intro p e s m below meth c ls hX hr hlocks hH hl
  have hx := hX.1.1
  have hb := hX.1.2.1
  have hts := hX.1.2.2.2.2
  have hl : lv_has ls 1 [(0, .ref (α 0))] := hl
  unfold fX8_image at hF
  refine lv_aload_n hx hb dX8_image_0 rfl (lv_at hl 0 rfl) ?_
  refine z_getr hX hH 0 0 1 rfl rfl flX8_image_11 dX8_image_1 ?_
  refine lv_aload_n hx hb dX8_image_4 rfl (lv_at hl 0 rfl) ?_
  refine z_getr hX hH 0 2 3 rfl rfl flX8_image_18 dX8_image_5 ?_
  obtain ⟨M2, c1, hF⟩ := zc_e hF
  obtain ⟨M3, eM3, hF⟩ := zl_e hF
  refine z_callSv (As := [.ref (α 1), .ref (α 3)]) (is := is_1n1_3n1) hX hH em_LM_is_1n1_3n1 (ctX8_copy l D cs (zsb is_1n1_3n1 α) N (zpk is_1n1_3n1 M)  M2 c1) (va_cwS 2 hts gX8_image_X8_copy rfl rfl rfl (by decide +kernel) ⟨Nat.le_of_ble_eq_true rfl, Nat.le_of_ble_eq_true rfl⟩) rfl hl.1 (Nat.le_of_ble_eq_true rfl) rfl dX8_image_8 ⟨Nat.zero_le _, Nat.zero_le _⟩ (fun H locs hH => ?_)
  rw [← eM3] at hH
  refine lv_aload_n hx hb dX8_image_11 rfl (lv_at hl 0 rfl) ?_
  refine z_iconst hx hb dX8_image_12 ?_
  obtain ⟨M4, eM4, hF⟩ := zl_e hF
  refine z_put hX hH 0 3 eM4 rfl rfl fpX8_image_164 rfl rfl dX8_image_13 (fun H locs hH => ?_)
  refine lv_aload_n hx hb dX8_image_16 rfl (lv_at hl 0 rfl) ?_
  refine z_iconst hx hb dX8_image_17 ?_
  obtain ⟨r7, M6, c5, hF⟩ := zc2_e hF
  refine z_sameVi (As := [.int (nZ (1:Int))]) hX hH 0 8 (ctX8_manyAt l D cs α N M4 (1:Int) r7 M6 c5) (cwV 1 hts gX8_image_X8_manyAt rfl rfl rfl (by decide +kernel) ⟨Nat.le_of_ble_eq_true rfl, Nat.le_of_ble_eq_true rfl⟩) rfl rfl rfl hl.1 (Nat.le_of_ble_eq_true rfl) rfl dX8_image_18 ⟨Nat.zero_le _, Nat.zero_le _⟩ (fun H locs hH => ?_)
  refine lv_aload_n hx hb dX8_image_21 rfl (lv_at hl 0 rfl) ?_
  refine z_iconst hx hb dX8_image_22 ?_
  obtain ⟨r10, M9, c8, hF⟩ := zc2_e hF
  refine z_sameVi (As := [.int (nZ (2:Int))]) hX hH 0 8 (ctX8_manyAt l D cs α N M6 (2:Int) r10 M9 c8) (cwV 1 hts gX8_image_X8_manyAt rfl rfl rfl (by decide +kernel) ⟨Nat.le_of_ble_eq_true rfl, Nat.le_of_ble_eq_true rfl⟩) rfl rfl rfl hl.1 (Nat.le_of_ble_eq_true rfl) rfl dX8_image_23 ⟨Nat.zero_le _, Nat.zero_le _⟩ (fun H locs hH => ?_)
  refine z_iadd hx hb dX8_image_26 ?_
  exact z_iret hX hr hlocks hH hF rfl dX8_image_27
theorem flX8_undo_164 : zF RX8 wsX8_undo 164 8 3 := ⟨_, TX8, _, rfl, by decide +kernel, by decide +kernel, by decide, rfl⟩
theorem flX8_undo_18 : zF RX8 wsX8_undo 18 8 2 := ⟨_, TX8, _, rfl, by decide +kernel, by decide +kernel, by decide, rfl⟩
theorem flX8_undo_11 : zF RX8 wsX8_undo 11 8 0 := ⟨_, TX8, _, rfl, by decide +kernel, by decide +kernel, by decide, rfl⟩
theorem em_LM_is_3n1_1n1 : zemb LM LCp is_3n1_1n1 = true := by decide +kernel
set_option maxHeartbeats 4000000 in
set_option maxRecDepth 100000 in
theorem ctX8_undo (l : Launch) (D : va_G) (cs : Nat → ClassId) (α : Nat → Nat) (N : Nat) (M : zM) (r : Int) (M' : zM) (hF : fX8_undo N M = some (r, M')) : Met l yX8_undo wsX8_undo ({ frames := 1, cells := 0, slots := 0, locals := 23 }) (zPre D cs LM α M [.ref (α 0)]) (zQi D cs LM α r M') 0 0 (zA LM.length α) := by
  refine z_met (cc := cX8_undo) (maxL := 1) (ret := (some .int)) (by decide +kernel) rfl RX8 rfl (Nat.le_of_ble_eq_true rfl) ?_
  intro p e s m below meth c ls hX hr hlocks hH hl
  have hx := hX.1.1
  have hb := hX.1.2.1
  have hts := hX.1.2.2.2.2
  have hl : lv_has ls 1 [(0, .ref (α 0))] := hl
  unfold fX8_undo at hF
  refine lv_aload_n hx hb dX8_undo_0 rfl (lv_at hl 0 rfl) ?_
  refine z_geti hX hH 0 3 rfl rfl flX8_undo_164 dX8_undo_1 ?_
  obtain ⟨h1, hF⟩ := zg_e hF
  refine z_if_ne (tgt := 10) hx hb h1 dX8_undo_4 (by decide) (fun hc => ?_) (fun hc => ?_)
  · have hF := zi_f hF hc
    refine lv_aload_n hx hb dX8_undo_10 rfl (lv_at hl 0 rfl) ?_
    refine z_getr hX hH 0 2 3 rfl rfl flX8_undo_18 dX8_undo_11 ?_
    refine lv_aload_n hx hb dX8_undo_14 rfl (lv_at hl 0 rfl) ?_
    refine z_getr hX hH 0 0 1 rfl rfl flX8_undo_11 dX8_undo_15 ?_
    obtain ⟨M3, c2, hF⟩ := zc_e hF
    obtain ⟨M4, eM4, hF⟩ := zl_e hF
    refine z_callSv (As := [.ref (α 3), .ref (α 1)]) (is := is_3n1_1n1) hX hH em_LM_is_3n1_1n1 (ctX8_copy l D cs (zsb is_3n1_1n1 α) N (zpk is_3n1_1n1 M)  M3 c2) (va_cwS 2 hts gX8_undo_X8_copy rfl rfl rfl (by decide +kernel) ⟨Nat.le_of_ble_eq_true rfl, Nat.le_of_ble_eq_true rfl⟩) rfl hl.1 (Nat.le_of_ble_eq_true rfl) rfl dX8_undo_18 ⟨Nat.zero_le _, Nat.zero_le _⟩ (fun H locs hH => ?_)
    rw [← eM4] at hH
    refine lv_aload_n hx hb dX8_undo_21 rfl (lv_at hl 0 rfl) ?_
    refine z_iconst hx hb dX8_undo_22 ?_
    obtain ⟨r7, M6, c5, hF⟩ := zc2_e hF
    refine z_sameVi (As := [.int (nZ (1:Int))]) hX hH 0 8 (ctX8_manyAt l D cs α N M4 (1:Int) r7 M6 c5) (cwV 1 hts gX8_undo_X8_manyAt rfl rfl rfl (by decide +kernel) ⟨Nat.le_of_ble_eq_true rfl, Nat.le_of_ble_eq_true rfl⟩) rfl rfl rfl hl.1 (Nat.le_of_ble_eq_true rfl) rfl dX8_undo_23 ⟨Nat.zero_le _, Nat.zero_le _⟩ (fun H locs hH => ?_)
    refine lv_aload_n hx hb dX8_undo_26 rfl (lv_at hl 0 rfl) ?_
    refine z_iconst hx hb dX8_undo_27 ?_
    obtain ⟨r10, M9, c8, hF⟩ := zc2_e hF
    refine z_sameVi (As := [.int (nZ (2:Int))]) hX hH 0 8 (ctX8_manyAt l D cs α N M6 (2:Int) r10 M9 c8) (cwV 1 hts gX8_undo_X8_manyAt rfl rfl rfl (by decide +kernel) ⟨Nat.le_of_ble_eq_true rfl, Nat.le_of_ble_eq_true rfl⟩) rfl rfl rfl hl.1 (Nat.le_of_ble_eq_true rfl) rfl dX8_undo_28 ⟨Nat.zero_le _, Nat.zero_le _⟩ (fun H locs hH => ?_)
    refine z_iadd hx hb dX8_undo_31 ?_
    exact z_iret hX hr hlocks hH hF rfl dX8_undo_32
  · have hF := zi_t hF hc
    refine z_bipush (v := -3) hx hb dX8_undo_7 (by decide +kernel) ?_
    exact z_iret hX hr hlocks hH hF rfl dX8_undo_9
theorem flX8_count_139 : zF RX8 wsX8_count 139 8 12 := ⟨_, TX8, _, rfl, by decide +kernel, by decide +kernel, by decide, rfl⟩
theorem flX8_count_11 : zF RX8 wsX8_count 11 8 0 := ⟨_, TX8, _, rfl, by decide +kernel, by decide +kernel, by decide, rfl⟩
theorem flX8_count_124 : zF RX8 wsX8_count 124 8 7 := ⟨_, TX8, _, rfl, by decide +kernel, by decide +kernel, by decide, rfl⟩
set_option maxHeartbeats 4000000 in
set_option maxRecDepth 100000 in
theorem ctX8_count (l : Launch) (D : va_G) (cs : Nat → ClassId) (α : Nat → Nat) (N : Nat) (M : zM) (a1 : Int) (r : Int) (M' : zM) (hF : fX8_count N a1 M = some (r, M')) : Met l yX8_count wsX8_count ({ frames := 1, cells := 0, slots := 0, locals := 23 }) (zPre D cs LM α M [.ref (α 0), .int (nZ a1)]) (zQi D cs LM α r M') 0 0 (zA LM.length α) := by
  refine z_met (cc := cX8_count) (maxL := 2) (ret := (some .int)) (by decide +kernel) rfl RX8 rfl (Nat.le_of_ble_eq_true rfl) ?_
  intro p e s m below meth c ls hX hr hlocks hH hl
  have hx := hX.1.1
  have hb := hX.1.2.1
  have hts := hX.1.2.2.2.2
  have J44 : ∀ (x1 : Int) (M0 : zM), sX8_count_44 N x1 M0 = some (r, M') → zGo p l e (headSpec wsX8_count ({ frames := 1, cells := 0, slots := 0, locals := 23 })).room s m ([.ref (α 0), .int (nZ a1)] : List Value).toArray below meth c (MQ below (zQi D cs LM α r M') ([.ref (α 0), .int (nZ a1)] : List Value).toArray s 0 0 (zA LM.length α)) D cs LM α (zA LM.length α) 2 44 [(0, .ref (α 0)), (1, .int (nZ x1))] [] M0 := by
    intro x1 M0 hF H locs ls hH hl
    unfold sX8_count_44 at hF
    refine lv_aload_n hx hb dX8_count_44 rfl (lv_at hl 0 rfl) ?_
    refine lv_iload_n hx hb dX8_count_45 rfl (lv_at hl 1 rfl) ?_
    refine z_iconst hx hb dX8_count_46 ?_
    refine z_iadd hx hb dX8_count_47 ?_
    obtain ⟨r4, M3, c2, hF⟩ := zc2_e hF
    refine z_sameVi (As := [.int (nZ (x1 + (1:Int)))]) hX hH 0 8 (ctX8_manyAt l D cs α N M0 (x1 + (1:Int)) r4 M3 c2) (cwV 1 hts gX8_count_X8_manyAt rfl rfl rfl (by decide +kernel) ⟨Nat.le_of_ble_eq_true rfl, Nat.le_of_ble_eq_true rfl⟩) rfl rfl rfl hl.1 (Nat.le_of_ble_eq_true rfl) rfl dX8_count_48 ⟨Nat.zero_le _, Nat.zero_le _⟩ (fun H locs hH => ?_)
    exact z_iret hX hr hlocks hH hF rfl dX8_count_51
  have hl : lv_has ls 2 [(0, .ref (α 0)), (1, .int (nZ a1))] := hl
  unfold fX8_count at hF
  refine lv_iload_n hx hb dX8_count_0 rfl (lv_at hl 1 rfl) ?_
  obtain ⟨h1, hF⟩ := zg_e hF
  by_cases hc : a1 < (0:Int) ∨ (6:Int) < a1
  · have hF := zi_t hF hc
    refine z_tableOut (tgt := 71) hx hb h1 hc dX8_count_1 (by decide) ?_
    refine z_bipush (v := -2) hx hb dX8_count_71 (by decide +kernel) ?_
    exact z_iret hX hr hlocks hH hF rfl dX8_count_73
  have hF := zi_f hF hc
  by_cases hc : a1 = (0:Int)
  · have hF := zi_t hF hc
    refine z_tableIn (tgt := 44) (v := 0) hx hb hc (by decide) dX8_count_1 (by decide +kernel) (by decide +kernel) rfl (by decide) ?_
    exact J44 a1 M hF _ _ _ hH (lv_sub hl [0, 1] rfl)
  have hF := zi_f hF hc
  by_cases hc : a1 = (1:Int)
  · have hF := zi_t hF hc
    refine z_tableIn (tgt := 44) (v := 1) hx hb hc (by decide) dX8_count_1 (by decide +kernel) (by decide +kernel) rfl (by decide) ?_
    exact J44 a1 M hF _ _ _ hH (lv_sub hl [0, 1] rfl)
  have hF := zi_f hF hc
  by_cases hc : a1 = (2:Int)
  · have hF := zi_t hF hc
    refine z_tableIn (tgt := 44) (v := 2) hx hb hc (by decide) dX8_count_1 (by decide +kernel) (by decide +kernel) rfl (by decide) ?_
    exact J44 a1 M hF _ _ _ hH (lv_sub hl [0, 1] rfl)
  have hF := zi_f hF hc
  by_cases hc : a1 = (3:Int)
  · have hF := zi_t hF hc
    refine z_tableIn (tgt := 44) (v := 3) hx hb hc (by decide) dX8_count_1 (by decide +kernel) (by decide +kernel) rfl (by decide) ?_
    exact J44 a1 M hF _ _ _ hH (lv_sub hl [0, 1] rfl)
  have hF := zi_f hF hc
  by_cases hc : a1 = (4:Int)
  · have hF := zi_t hF hc
    refine z_tableIn (tgt := 52) (v := 4) hx hb hc (by decide) dX8_count_1 (by decide +kernel) (by decide +kernel) rfl (by decide) ?_
    refine lv_aload_n hx hb dX8_count_52 rfl (lv_at hl 0 rfl) ?_
    refine z_geti hX hH 0 12 rfl rfl flX8_count_139 dX8_count_53 ?_
    exact z_iret hX hr hlocks hH hF rfl dX8_count_56
  have hF := zi_f hF hc
  by_cases hc : a1 = (5:Int)
  · have hF := zi_t hF hc
    refine z_tableIn (tgt := 57) (v := 5) hx hb hc (by decide) dX8_count_1 (by decide +kernel) (by decide +kernel) rfl (by decide) ?_
    refine lv_aload_n hx hb dX8_count_57 rfl (lv_at hl 0 rfl) ?_
    refine z_getr hX hH 0 0 1 rfl rfl flX8_count_11 dX8_count_58 ?_
    refine z_sipush (v := 3236) hx hb dX8_count_61 (by decide +kernel) ?_
    refine z_iald hX hH 1 3253 rfl (by decide) (by decide) dX8_count_64 ?_
    exact z_iret hX hr hlocks hH hF rfl dX8_count_65
  have hF := zi_f hF hc
  by_cases hc : a1 = (6:Int)
  · have hF := zi_t hF hc
    refine z_tableIn (tgt := 66) (v := 6) hx hb hc (by decide) dX8_count_1 (by decide +kernel) (by decide +kernel) rfl (by decide) ?_
    refine lv_aload_n hx hb dX8_count_66 rfl (lv_at hl 0 rfl) ?_
    refine z_geti hX hH 0 7 rfl rfl flX8_count_124 dX8_count_67 ?_
    exact z_iret hX hr hlocks hH hF rfl dX8_count_70
  have hF := zi_f hF hc
  cases hF
theorem flX8_tape_39 : zF RX8 wsX8_tape 39 8 13 := ⟨_, TX8, _, rfl, by decide +kernel, by decide +kernel, by decide, rfl⟩
theorem flX8_tape_42 : zF RX8 wsX8_tape 42 8 14 := ⟨_, TX8, _, rfl, by decide +kernel, by decide +kernel, by decide, rfl⟩
theorem flX8_tape_47 : zF RX8 wsX8_tape 47 8 15 := ⟨_, TX8, _, rfl, by decide +kernel, by decide +kernel, by decide, rfl⟩
set_option maxHeartbeats 4000000 in
set_option maxRecDepth 100000 in
theorem ctX8_tape (l : Launch) (D : va_G) (cs : Nat → ClassId) (α : Nat → Nat) (N : Nat) (M : zM) (a1 : Int) (a2 : Int) (a3 : Int) (r : Int) (M' : zM) (hF : fX8_tape N a1 a2 a3 M = some (r, M')) : Met l yX8_tape wsX8_tape ({ frames := 2, cells := 0, slots := 0, locals := 42 }) (zPre D cs LM α M [.ref (α 0), .int (nZ a1), .int (nZ a2), .int (nZ a3)]) (zQi D cs LM α r M') 0 0 (zA LM.length α) := by
  refine z_met (cc := cX8_tape) (maxL := 5) (ret := (some .int)) (by decide +kernel) rfl RX8 rfl (Nat.le_of_ble_eq_true rfl) ?_
  intro p e s m below meth c ls hX hr hlocks hH hl
  have hx := hX.1.1
  have hb := hX.1.2.1
  have hts := hX.1.2.2.2.2
  have L67 : ∀ (n : Nat) (x1 : Int) (x4 : Int) (M0 : zM), fX8_tape_67 N n x1 x4 M0 = some (r, M') → zGo p l e (headSpec wsX8_tape ({ frames := 2, cells := 0, slots := 0, locals := 42 })).room s m ([.ref (α 0), .int (nZ a1), .int (nZ a2), .int (nZ a3)] : List Value).toArray below meth c (MQ below (zQi D cs LM α r M') ([.ref (α 0), .int (nZ a1), .int (nZ a2), .int (nZ a3)] : List Value).toArray s 0 0 (zA LM.length α)) D cs LM α (zA LM.length α) 5 67 [(0, .ref (α 0)), (1, .int (nZ x1)), (4, .int (nZ x4))] [] M0 := by
    intro  n
    induction n with
    | zero =>
      intro x1 x4 M0 hF
      have hF : (none : Option (Int × zM)) = some (r, M') := hF
      cases hF
    | succ n hk67 =>
      intro x1 x4 M0 hF H locs ls hH hl
      have hF : sX8_tape_67 N (fun x1 x4 M0 => fX8_tape_67 N n x1 x4 M0) x1 x4 M0 = some (r, M') := hF
      unfold sX8_tape_67 at hF
      refine lv_iload hx hb dX8_tape_67 (lv_at hl 2 rfl) ?_
      refine z_bipush (v := 60) hx hb dX8_tape_69 (by decide +kernel) ?_
      obtain ⟨h15, hF⟩ := zg_e hF
      refine z_icmp_ge (tgt := 90) hx hb h15 (by decide) dX8_tape_71 (by decide) (fun hc => ?_) (fun hc => ?_)
      · have hF := zi_t hF hc
        refine z_iconst hx hb dX8_tape_90 ?_
        exact z_iret hX hr hlocks hH hF rfl dX8_tape_91
      · have hF := zi_f hF hc
        refine lv_aload_n hx hb dX8_tape_74 rfl (lv_at hl 0 rfl) ?_
        refine z_getr hX hH 0 15 12 rfl rfl flX8_tape_47 dX8_tape_75 ?_
        refine lv_iload_n hx hb dX8_tape_78 rfl (lv_at hl 1 rfl) ?_
        obtain ⟨h16, hF⟩ := zg_e hF
        have h17 : x1.toNat < 6 := by have := h16.1; have := h16.2; omega
        refine z_aald (ts := [13, 14, 15, 16, 17, 18]) hX hH 12 5 (13 + 1 * x1.toNat) rfl rfl rfl h16 (by decide) (ra_LM_13 x1.toNat h17) dX8_tape_79 ?_
        refine lv_iload hx hb dX8_tape_80 (lv_at hl 2 rfl) ?_
        refine z_lconst hx hb dX8_tape_82 ?_
        obtain ⟨h18, hF⟩ := zg_e hF
        obtain ⟨M19, eM19, hF⟩ := zl_e hF
        refine z_last hX hH (13 + 1 * x1.toNat) 60 eM19 (fm_LM_13_0 x1.toNat h17) h18 (by decide) dX8_tape_83 (fun H locs hH => ?_)
        obtain ⟨v20, ev20, hF⟩ := zl_e hF
        refine z_iinc ev20 (lv' := [(4, .int (nZ v20)), (0, .ref (α 0)), (1, .int (nZ x1))]) hx hb dX8_tape_84 hl (k := 2) rfl (by decide) rfl (fun ls hl => ?_)
        refine lv_goto (tgt := 67) hx hb dX8_tape_87 (by decide) ?_
        exact hk67 x1 v20 M19 hF _ _ _ hH (lv_sub hl [1, 2, 0] rfl)
  have J63 : ∀ (x1 : Int) (y0 : Int) (y1 : Int) (M0 : zM), sX8_tape_63 N x1 y0 y1 M0 = some (r, M') → zGo p l e (headSpec wsX8_tape ({ frames := 2, cells := 0, slots := 0, locals := 42 })).room s m ([.ref (α 0), .int (nZ a1), .int (nZ a2), .int (nZ a3)] : List Value).toArray below meth c (MQ below (zQi D cs LM α r M') ([.ref (α 0), .int (nZ a1), .int (nZ a2), .int (nZ a3)] : List Value).toArray s 0 0 (zA LM.length α)) D cs LM α (zA LM.length α) 5 63 [(0, .ref (α 0)), (1, .int (nZ x1))] [.int (nZ y0), .int (nZ y1), .ref (α 11)] M0 := by
    intro x1 y0 y1 M0 hF H locs ls hH hl
    unfold sX8_tape_63 at hF
    obtain ⟨h12, hF⟩ := zg_e hF
    obtain ⟨M13, eM13, hF⟩ := zl_e hF
    refine z_iast hX hH 11 6 eM13 rfl h12 (by decide) dX8_tape_63 (fun H locs hH => ?_)
    refine z_iconst hx hb dX8_tape_64 ?_
    obtain ⟨v14, ev14, hF⟩ := zl_e hF
    refine z_istore ev14 (lv' := [(4, .int (nZ v14)), (0, .ref (α 0)), (1, .int (nZ x1))]) hx hb dX8_tape_65 hl (by decide) rfl (fun ls hl => ?_)
    exact L67 N x1 v14 M13 hF _ _ _ hH (lv_sub hl [1, 2, 0] rfl)
  have J42 : ∀ (x1 : Int) (x2 : Int) (x3 : Int) (M0 : zM), sX8_tape_42 N x1 x2 x3 M0 = some (r, M') → zGo p l e (headSpec wsX8_tape ({ frames := 2, cells := 0, slots := 0, locals := 42 })).room s m ([.ref (α 0), .int (nZ a1), .int (nZ a2), .int (nZ a3)] : List Value).toArray below meth c (MQ below (zQi D cs LM α r M') ([.ref (α 0), .int (nZ a1), .int (nZ a2), .int (nZ a3)] : List Value).toArray s 0 0 (zA LM.length α)) D cs LM α (zA LM.length α) 5 42 [(0, .ref (α 0)), (1, .int (nZ x1)), (2, .int (nZ x2)), (3, .int (nZ x3))] [] M0 := by
    intro x1 x2 x3 M0 hF H locs ls hH hl
    unfold sX8_tape_42 at hF
    refine lv_aload_n hx hb dX8_tape_42 rfl (lv_at hl 0 rfl) ?_
    refine z_getr hX hH 0 13 10 rfl rfl flX8_tape_39 dX8_tape_43 ?_
    refine lv_iload_n hx hb dX8_tape_46 rfl (lv_at hl 1 rfl) ?_
    refine lv_iload_n hx hb dX8_tape_47 rfl (lv_at hl 2 rfl) ?_
    obtain ⟨h9, hF⟩ := zg_e hF
    obtain ⟨M10, eM10, hF⟩ := zl_e hF
    refine z_iast hX hH 10 6 eM10 rfl h9 (by decide) dX8_tape_48 (fun H locs hH => ?_)
    refine lv_aload_n hx hb dX8_tape_49 rfl (lv_at hl 0 rfl) ?_
    refine z_getr hX hH 0 14 11 rfl rfl flX8_tape_42 dX8_tape_50 ?_
    refine lv_iload_n hx hb dX8_tape_53 rfl (lv_at hl 1 rfl) ?_
    refine lv_iload_n hx hb dX8_tape_54 rfl (lv_at hl 2 rfl) ?_
    obtain ⟨h11, hF⟩ := zg_e hF
    refine z_if_ge (tgt := 62) hx hb h11 dX8_tape_55 (by decide) (fun hc => ?_) (fun hc => ?_)
    · have hF := zi_t hF hc
      refine lv_iload_n hx hb dX8_tape_62 rfl (lv_at hl 3 rfl) ?_
      exact J63 x1 x3 x1 M10 hF _ _ _ hH (lv_sub hl [0, 1] rfl)
    · have hF := zi_f hF hc
      refine z_iconst hx hb dX8_tape_58 ?_
      refine lv_goto (tgt := 63) hx hb dX8_tape_59 (by decide) ?_
      exact J63 x1 (0:Int) x1 M10 hF _ _ _ hH (lv_sub hl [0, 1] rfl)
  have J31 : ∀ (x1 : Int) (x2 : Int) (x3 : Int) (M0 : zM), sX8_tape_31 N x1 x2 x3 M0 = some (r, M') → zGo p l e (headSpec wsX8_tape ({ frames := 2, cells := 0, slots := 0, locals := 42 })).room s m ([.ref (α 0), .int (nZ a1), .int (nZ a2), .int (nZ a3)] : List Value).toArray below meth c (MQ below (zQi D cs LM α r M') ([.ref (α 0), .int (nZ a1), .int (nZ a2), .int (nZ a3)] : List Value).toArray s 0 0 (zA LM.length α)) D cs LM α (zA LM.length α) 5 31 [(0, .ref (α 0)), (1, .int (nZ x1)), (2, .int (nZ x2)), (3, .int (nZ x3))] [] M0 := by
    intro x1 x2 x3 M0 hF H locs ls hH hl
    unfold sX8_tape_31 at hF
    refine lv_iload_n hx hb dX8_tape_31 rfl (lv_at hl 2 rfl) ?_
    obtain ⟨h8, hF⟩ := zg_e hF
    refine z_if_lt (tgt := 42) hx hb h8 dX8_tape_32 (by decide) (fun hc => ?_) (fun hc => ?_)
    · have hF := zi_t hF hc
      exact J42 x1 x2 x3 M0 hF _ _ _ hH (lv_sub hl [0, 1, 2, 3] rfl)
    · have hF := zi_f hF hc
      refine lv_iload_n hx hb dX8_tape_35 rfl (lv_at hl 3 rfl) ?_
      obtain ⟨h21, hF⟩ := zg_e hF
      refine z_if_ge (tgt := 42) hx hb h21 dX8_tape_36 (by decide) (fun hc => ?_) (fun hc => ?_)
      · have hF := zi_t hF hc
        exact J42 x1 x2 x3 M0 hF _ _ _ hH (lv_sub hl [0, 1, 2, 3] rfl)
      · have hF := zi_f hF hc
        refine z_bipush (v := -14) hx hb dX8_tape_39 (by decide +kernel) ?_
        exact z_iret hX hr hlocks hH hF rfl dX8_tape_41
  have hl : lv_has ls 5 [(0, .ref (α 0)), (1, .int (nZ a1)), (2, .int (nZ a2)), (3, .int (nZ a3))] := hl
  unfold fX8_tape at hF
  refine lv_iload_n hx hb dX8_tape_0 rfl (lv_at hl 1 rfl) ?_
  obtain ⟨r1, c2, hF⟩ := zc_e hF
  refine z_callSi (As := [.int (nZ a1)]) (is := []) (Ll := []) hX hH rfl (ctX8_isTape l D cs (zsb [] α) N (zpk [] M) a1 r1 c2) (va_cwS 1 hts gX8_tape_X8_isTape rfl rfl rfl (by decide +kernel) ⟨Nat.le_of_ble_eq_true rfl, Nat.le_of_ble_eq_true rfl⟩) rfl hl.1 (Nat.le_of_ble_eq_true rfl) rfl dX8_tape_1 ⟨Nat.zero_le _, Nat.zero_le _⟩ (fun H locs hH => ?_)
  have hH : zH D cs LM α M (zA LM.length α) s H locs := hH
  obtain ⟨h3, hF⟩ := zg_e hF
  refine z_if_ne (tgt := 9) hx hb h3 dX8_tape_4 (by decide) (fun hc => ?_) (fun hc => ?_)
  · have hF := zi_f hF hc
    refine lv_iload_n hx hb dX8_tape_9 rfl (lv_at hl 2 rfl) ?_
    refine z_iconst hx hb dX8_tape_10 ?_
    refine z_iconst hx hb dX8_tape_11 ?_
    obtain ⟨r4, c5, hF⟩ := zc_e hF
    refine z_callSi (As := [.int (nZ a2), .int (nZ (-1:Int)), .int (nZ (4:Int))]) (is := []) (Ll := []) hX hH rfl (ctX8_in l D cs (zsb [] α) N (zpk [] M) a2 (-1:Int) (4:Int) r4 c5) (va_cwS 3 hts gX8_tape_X8_in rfl rfl rfl (by decide +kernel) ⟨Nat.le_of_ble_eq_true rfl, Nat.le_of_ble_eq_true rfl⟩) rfl hl.1 (Nat.le_of_ble_eq_true rfl) rfl dX8_tape_12 ⟨Nat.zero_le _, Nat.zero_le _⟩ (fun H locs hH => ?_)
    have hH : zH D cs LM α M (zA LM.length α) s H locs := hH
    obtain ⟨h6, hF⟩ := zg_e hF
    refine z_if_eq (tgt := 28) hx hb h6 dX8_tape_15 (by decide) (fun hc => ?_) (fun hc => ?_)
    · have hF := zi_t hF hc
      refine z_bipush (v := -2) hx hb dX8_tape_28 (by decide +kernel) ?_
      exact z_iret hX hr hlocks hH hF rfl dX8_tape_30
    · have hF := zi_f hF hc
      refine lv_iload_n hx hb dX8_tape_18 rfl (lv_at hl 2 rfl) ?_
      obtain ⟨h7, hF⟩ := zg_e hF
      refine z_if_lt (tgt := 31) hx hb h7 dX8_tape_19 (by decide) (fun hc => ?_) (fun hc => ?_)
      · have hF := zi_t hF hc
        exact J31 a1 a2 a3 M hF _ _ _ hH (lv_sub hl [0, 1, 2, 3] rfl)
      · have hF := zi_f hF hc
        refine lv_iload_n hx hb dX8_tape_22 rfl (lv_at hl 3 rfl) ?_
        refine z_bipush (v := 60) hx hb dX8_tape_23 (by decide +kernel) ?_
        obtain ⟨h22, hF⟩ := zg_e hF
        refine z_icmp_le (tgt := 31) hx hb h22 (by decide) dX8_tape_25 (by decide) (fun hc => ?_) (fun hc => ?_)
        · have hF := zi_t hF hc
          exact J31 a1 a2 a3 M hF _ _ _ hH (lv_sub hl [0, 1, 2, 3] rfl)
        · have hF := zi_f hF hc
          refine z_bipush (v := -2) hx hb dX8_tape_28 (by decide +kernel) ?_
          exact z_iret hX hr hlocks hH hF rfl dX8_tape_30
  · have hF := zi_t hF hc
    refine z_iconst hx hb dX8_tape_7 ?_
    exact z_iret hX hr hlocks hH hF rfl dX8_tape_8
set_option maxHeartbeats 4000000 in
set_option maxRecDepth 100000 in
theorem ctX8_fit (l : Launch) (D : va_G) (cs : Nat → ClassId) (α : Nat → Nat) (N : Nat) (M : zM) (a1 : Int) (a2 : Int) (r : Int) (hF : fX8_fit N a1 a2 = some r) : Met l yX8_fit wsX8_fit ({ frames := 0, cells := 0, slots := 0, locals := 0 }) (zPre D cs LNo α M [.int (nZ a1), .long (nY a2)]) (zQl D cs LNo α r M) 0 0 (zA LNo.length α) := by
  refine z_met (cc := cX8_fit) (maxL := 3) (ret := (some .long)) (by decide +kernel) rfl RX8 rfl (Nat.le_of_ble_eq_true rfl) ?_
  intro p e s m below meth c ls hX hr hlocks hH hl
  have hx := hX.1.1
  have hb := hX.1.2.1
  have hts := hX.1.2.2.2.2
  have hl : lv_has ls 3 [(0, .int (nZ a1)), (1, .long (nY a2))] := hl
  unfold fX8_fit at hF
  refine lv_iload_n hx hb dX8_fit_0 rfl (lv_at hl 0 rfl) ?_
  obtain ⟨h1, hF⟩ := zg_e hF
  by_cases hc : a1 < (0:Int) ∨ (3:Int) < a1
  · have hF := zi_t hF hc
    refine z_tableOut (tgt := 48) hx hb h1 hc dX8_fit_1 (by decide) ?_
    refine lv_lload_n hx hb dX8_fit_48 rfl (lv_at hl 1 rfl) ?_
    refine z_lconst hx hb dX8_fit_49 ?_
    obtain ⟨h2, hF⟩ := zg_e hF
    refine z_lcmp_eq (tgt := 58) hx hb h2 (by decide) dX8_fit_50 dX8_fit_51 (by decide) (fun hc => ?_) (fun hc => ?_)
    · have hF := zi_t hF hc
      refine z_lconst hx hb dX8_fit_58 ?_
      exact z_lretP hX hr hlocks hH hF dX8_fit_59
    · have hF := zi_f hF hc
      refine z_lconst hx hb dX8_fit_54 ?_
      refine lv_goto (tgt := 59) hx hb dX8_fit_55 (by decide) ?_
      exact z_lretP hX hr hlocks hH hF dX8_fit_59
  have hF := zi_f hF hc
  by_cases hc : a1 = (0:Int)
  · have hF := zi_t hF hc
    refine z_tableIn (tgt := 32) (v := 0) hx hb hc (by decide) dX8_fit_1 (by decide +kernel) (by decide +kernel) rfl (by decide) ?_
    refine lv_lload_n hx hb dX8_fit_32 rfl (lv_at hl 1 rfl) ?_
    refine z_l2i hx hb dX8_fit_33 ?_
    refine z_i2b hx hb dX8_fit_34 ?_
    obtain ⟨h3, hF⟩ := zg_e hF
    refine z_i2l hx hb h3 dX8_fit_35 ?_
    exact z_lretP hX hr hlocks hH hF dX8_fit_36
  have hF := zi_f hF hc
  by_cases hc : a1 = (1:Int)
  · have hF := zi_t hF hc
    refine z_tableIn (tgt := 37) (v := 1) hx hb hc (by decide) dX8_fit_1 (by decide +kernel) (by decide +kernel) rfl (by decide) ?_
    refine lv_lload_n hx hb dX8_fit_37 rfl (lv_at hl 1 rfl) ?_
    refine z_l2i hx hb dX8_fit_38 ?_
    refine z_i2s hx hb dX8_fit_39 ?_
    obtain ⟨h4, hF⟩ := zg_e hF
    refine z_i2l hx hb h4 dX8_fit_40 ?_
    exact z_lretP hX hr hlocks hH hF dX8_fit_41
  have hF := zi_f hF hc
  by_cases hc : a1 = (2:Int)
  · have hF := zi_t hF hc
    refine z_tableIn (tgt := 42) (v := 2) hx hb hc (by decide) dX8_fit_1 (by decide +kernel) (by decide +kernel) rfl (by decide) ?_
    refine lv_lload_n hx hb dX8_fit_42 rfl (lv_at hl 1 rfl) ?_
    refine z_l2i hx hb dX8_fit_43 ?_
    obtain ⟨h5, hF⟩ := zg_e hF
    refine z_i2l hx hb h5 dX8_fit_44 ?_
    exact z_lretP hX hr hlocks hH hF dX8_fit_45
  have hF := zi_f hF hc
  by_cases hc : a1 = (3:Int)
  · have hF := zi_t hF hc
    refine z_tableIn (tgt := 46) (v := 3) hx hb hc (by decide) dX8_fit_1 (by decide +kernel) (by decide +kernel) rfl (by decide) ?_
    refine lv_lload_n hx hb dX8_fit_46 rfl (lv_at hl 1 rfl) ?_
    exact z_lretP hX hr hlocks hH hF dX8_fit_47
  have hF := zi_f hF hc
  cases hF
theorem flX8_item_39 : zF RX8 wsX8_item 39 8 13 := ⟨_, TX8, _, rfl, by decide +kernel, by decide +kernel, by decide, rfl⟩
theorem flX8_item_42 : zF RX8 wsX8_item 42 8 14 := ⟨_, TX8, _, rfl, by decide +kernel, by decide +kernel, by decide, rfl⟩
theorem flX8_item_47 : zF RX8 wsX8_item 47 8 15 := ⟨_, TX8, _, rfl, by decide +kernel, by decide +kernel, by decide, rfl⟩
set_option maxHeartbeats 4000000 in
set_option maxRecDepth 100000 in
theorem ctX8_item (l : Launch) (D : va_G) (cs : Nat → ClassId) (α : Nat → Nat) (N : Nat) (M : zM) (a1 : Int) (a2 : Int) (a3 : Int) (r : Int) (M' : zM) (hF : fX8_item N a1 a2 a3 M = some (r, M')) : Met l yX8_item wsX8_item ({ frames := 2, cells := 0, slots := 0, locals := 42 }) (zPre D cs LM α M [.ref (α 0), .int (nZ a1), .int (nZ a2), .long (nY a3)]) (zQi D cs LM α r M') 0 0 (zA LM.length α) := by
  refine z_met (cc := cX8_item) (maxL := 5) (ret := (some .int)) (by decide +kernel) rfl RX8 rfl (Nat.le_of_ble_eq_true rfl) ?_
  intro p e s m below meth c ls hX hr hlocks hH hl
  have hx := hX.1.1
  have hb := hX.1.2.1
  have hts := hX.1.2.2.2.2
  have hl : lv_has ls 5 [(0, .ref (α 0)), (1, .int (nZ a1)), (2, .int (nZ a2)), (3, .long (nY a3))] := hl
  unfold fX8_item at hF
  refine lv_iload_n hx hb dX8_item_0 rfl (lv_at hl 1 rfl) ?_
  obtain ⟨r1, c2, hF⟩ := zc_e hF
  refine z_callSi (As := [.int (nZ a1)]) (is := []) (Ll := []) hX hH rfl (ctX8_isTape l D cs (zsb [] α) N (zpk [] M) a1 r1 c2) (va_cwS 1 hts gX8_item_X8_isTape rfl rfl rfl (by decide +kernel) ⟨Nat.le_of_ble_eq_true rfl, Nat.le_of_ble_eq_true rfl⟩) rfl hl.1 (Nat.le_of_ble_eq_true rfl) rfl dX8_item_1 ⟨Nat.zero_le _, Nat.zero_le _⟩ (fun H locs hH => ?_)
  have hH : zH D cs LM α M (zA LM.length α) s H locs := hH
  obtain ⟨h3, hF⟩ := zg_e hF
  refine z_if_ne (tgt := 9) hx hb h3 dX8_item_4 (by decide) (fun hc => ?_) (fun hc => ?_)
  · have hF := zi_f hF hc
    refine lv_aload_n hx hb dX8_item_9 rfl (lv_at hl 0 rfl) ?_
    refine z_getr hX hH 0 13 10 rfl rfl flX8_item_39 dX8_item_10 ?_
    refine lv_iload_n hx hb dX8_item_13 rfl (lv_at hl 1 rfl) ?_
    obtain ⟨h4, hF⟩ := zg_e hF
    refine z_iald hX hH 10 6 rfl h4 (by decide) dX8_item_14 ?_
    obtain ⟨h5, hF⟩ := zg_e hF
    refine z_if_ge (tgt := 21) hx hb h5 dX8_item_15 (by decide) (fun hc => ?_) (fun hc => ?_)
    · have hF := zi_t hF hc
      refine lv_iload_n hx hb dX8_item_21 rfl (lv_at hl 2 rfl) ?_
      refine z_iconst hx hb dX8_item_22 ?_
      refine lv_aload_n hx hb dX8_item_23 rfl (lv_at hl 0 rfl) ?_
      refine z_getr hX hH 0 14 11 rfl rfl flX8_item_42 dX8_item_24 ?_
      refine lv_iload_n hx hb dX8_item_27 rfl (lv_at hl 1 rfl) ?_
      refine z_iald hX hH 11 6 rfl h4 (by decide) dX8_item_28 ?_
      refine z_iconst hx hb dX8_item_29 ?_
      refine z_isub hx hb dX8_item_30 ?_
      obtain ⟨r6, c7, hF⟩ := zc_e hF
      refine z_callSi (As := [.int (nZ a2), .int (nZ (0:Int)), .int (nZ ((M 11 a1.toNat) - (1:Int)))]) (is := []) (Ll := []) hX hH rfl (ctX8_in l D cs (zsb [] α) N (zpk [] M) a2 (0:Int) ((M 11 a1.toNat) - (1:Int)) r6 c7) (va_cwS 3 hts gX8_item_X8_in rfl rfl rfl (by decide +kernel) ⟨Nat.le_of_ble_eq_true rfl, Nat.le_of_ble_eq_true rfl⟩) rfl hl.1 (Nat.le_of_ble_eq_true rfl) rfl dX8_item_31 ⟨Nat.zero_le _, Nat.zero_le _⟩ (fun H locs hH => ?_)
      have hH : zH D cs LM α M (zA LM.length α) s H locs := hH
      obtain ⟨h8, hF⟩ := zg_e hF
      refine z_if_ne (tgt := 40) hx hb h8 dX8_item_34 (by decide) (fun hc => ?_) (fun hc => ?_)
      · have hF := zi_f hF hc
        refine lv_aload_n hx hb dX8_item_40 rfl (lv_at hl 0 rfl) ?_
        refine z_getr hX hH 0 15 12 rfl rfl flX8_item_47 dX8_item_41 ?_
        refine lv_iload_n hx hb dX8_item_44 rfl (lv_at hl 1 rfl) ?_
        have h9 : a1.toNat < 6 := by have := h4.1; have := h4.2; omega
        refine z_aald (ts := [13, 14, 15, 16, 17, 18]) hX hH 12 5 (13 + 1 * a1.toNat) rfl rfl rfl h4 (by decide) (ra_LM_13 a1.toNat h9) dX8_item_45 ?_
        refine lv_iload_n hx hb dX8_item_46 rfl (lv_at hl 2 rfl) ?_
        refine lv_aload_n hx hb dX8_item_47 rfl (lv_at hl 0 rfl) ?_
        refine z_getr hX hH 0 13 10 rfl rfl flX8_item_39 dX8_item_48 ?_
        refine lv_iload_n hx hb dX8_item_51 rfl (lv_at hl 1 rfl) ?_
        refine z_iald hX hH 10 6 rfl h4 (by decide) dX8_item_52 ?_
        refine lv_lload_n hx hb dX8_item_53 rfl (lv_at hl 3 rfl) ?_
        obtain ⟨r10, c11, hF⟩ := zc_e hF
        refine z_callSl (As := [.int (nZ (M 10 a1.toNat)), .long (nY a3)]) (is := []) (Ll := []) hX hH rfl (ctX8_fit l D cs (zsb [] α) N (zpk [] M) (M 10 a1.toNat) a3 r10 c11) (va_cwS 2 hts gX8_item_X8_fit rfl rfl rfl (by decide +kernel) ⟨Nat.le_of_ble_eq_true rfl, Nat.le_of_ble_eq_true rfl⟩) rfl hl.1 (Nat.le_of_ble_eq_true rfl) rfl dX8_item_54 ⟨Nat.zero_le _, Nat.zero_le _⟩ (fun H locs hH => ?_)
        have hH : zH D cs LM α M (zA LM.length α) s H locs := hH
        obtain ⟨h12, hF⟩ := zg_e hF
        obtain ⟨M13, eM13, hF⟩ := zl_e hF
        refine z_last hX hH (13 + 1 * a1.toNat) 60 eM13 (fm_LM_13_0 a1.toNat h9) h12 (by decide) dX8_item_57 (fun H locs hH => ?_)
        refine z_iconst hx hb dX8_item_58 ?_
        exact z_iret hX hr hlocks hH hF rfl dX8_item_59
      · have hF := zi_t hF hc
        refine z_bipush (v := -13) hx hb dX8_item_37 (by decide +kernel) ?_
        exact z_iret hX hr hlocks hH hF rfl dX8_item_39
    · have hF := zi_f hF hc
      refine z_bipush (v := -11) hx hb dX8_item_18 (by decide +kernel) ?_
      exact z_iret hX hr hlocks hH hF rfl dX8_item_20
  · have hF := zi_t hF hc
    refine z_iconst hx hb dX8_item_7 ?_
    exact z_iret hX hr hlocks hH hF rfl dX8_item_8
theorem flX8_read_39 : zF RX8 wsX8_read 39 8 13 := ⟨_, TX8, _, rfl, by decide +kernel, by decide +kernel, by decide, rfl⟩
theorem flX8_read_42 : zF RX8 wsX8_read 42 8 14 := ⟨_, TX8, _, rfl, by decide +kernel, by decide +kernel, by decide, rfl⟩
theorem flX8_read_47 : zF RX8 wsX8_read 47 8 15 := ⟨_, TX8, _, rfl, by decide +kernel, by decide +kernel, by decide, rfl⟩
set_option maxHeartbeats 4000000 in
set_option maxRecDepth 100000 in
theorem ctX8_read (l : Launch) (D : va_G) (cs : Nat → ClassId) (α : Nat → Nat) (N : Nat) (M : zM) (a1 : Int) (a2 : Int) (r : Int) (M' : zM) (hF : fX8_read N a1 a2 M = some (r, M')) : Met l yX8_read wsX8_read ({ frames := 2, cells := 0, slots := 0, locals := 42 }) (zPre D cs LM α M [.ref (α 0), .int (nZ a1), .int (nZ a2)]) (zQl D cs LM α r M') 0 0 (zA LM.length α) := by
  refine z_met (cc := cX8_read) (maxL := 3) (ret := (some .long)) (by decide +kernel) rfl RX8 rfl (Nat.le_of_ble_eq_true rfl) ?_
  intro p e s m below meth c ls hX hr hlocks hH hl
  have hx := hX.1.1
  have hb := hX.1.2.1
  have hts := hX.1.2.2.2.2
  have hl : lv_has ls 3 [(0, .ref (α 0)), (1, .int (nZ a1)), (2, .int (nZ a2))] := hl
  unfold fX8_read at hF
  refine lv_iload_n hx hb dX8_read_0 rfl (lv_at hl 1 rfl) ?_
  obtain ⟨r1, c2, hF⟩ := zc_e hF
  refine z_callSi (As := [.int (nZ a1)]) (is := []) (Ll := []) hX hH rfl (ctX8_isTape l D cs (zsb [] α) N (zpk [] M) a1 r1 c2) (va_cwS 1 hts gX8_read_X8_isTape rfl rfl rfl (by decide +kernel) ⟨Nat.le_of_ble_eq_true rfl, Nat.le_of_ble_eq_true rfl⟩) rfl hl.1 (Nat.le_of_ble_eq_true rfl) rfl dX8_read_1 ⟨Nat.zero_le _, Nat.zero_le _⟩ (fun H locs hH => ?_)
  have hH : zH D cs LM α M (zA LM.length α) s H locs := hH
  obtain ⟨h3, hF⟩ := zg_e hF
  refine z_if_eq (tgt := 43) hx hb h3 dX8_read_4 (by decide) (fun hc => ?_) (fun hc => ?_)
  · have hF := zi_t hF hc
    refine z_ldc2 (v := (-9223372036854775808:Int)) (n := -9223372036854775808) hx hb hX.1.2.2.2.1 (hts (.constantLong RX8 104 (-9223372036854775808)) (by decide +kernel)) (by decide +kernel) dX8_read_43 ?_
    exact z_lret hX hr hlocks hH hF dX8_read_46
  · have hF := zi_f hF hc
    refine lv_aload_n hx hb dX8_read_7 rfl (lv_at hl 0 rfl) ?_
    refine z_getr hX hH 0 13 10 rfl rfl flX8_read_39 dX8_read_8 ?_
    refine lv_iload_n hx hb dX8_read_11 rfl (lv_at hl 1 rfl) ?_
    obtain ⟨h4, hF⟩ := zg_e hF
    refine z_iald hX hH 10 6 rfl h4 (by decide) dX8_read_12 ?_
    obtain ⟨h5, hF⟩ := zg_e hF
    refine z_if_lt (tgt := 43) hx hb h5 dX8_read_13 (by decide) (fun hc => ?_) (fun hc => ?_)
    · have hF := zi_t hF hc
      refine z_ldc2 (v := (-9223372036854775808:Int)) (n := -9223372036854775808) hx hb hX.1.2.2.2.1 (hts (.constantLong RX8 104 (-9223372036854775808)) (by decide +kernel)) (by decide +kernel) dX8_read_43 ?_
      exact z_lret hX hr hlocks hH hF dX8_read_46
    · have hF := zi_f hF hc
      refine lv_iload_n hx hb dX8_read_16 rfl (lv_at hl 2 rfl) ?_
      refine z_iconst hx hb dX8_read_17 ?_
      refine lv_aload_n hx hb dX8_read_18 rfl (lv_at hl 0 rfl) ?_
      refine z_getr hX hH 0 14 11 rfl rfl flX8_read_42 dX8_read_19 ?_
      refine lv_iload_n hx hb dX8_read_22 rfl (lv_at hl 1 rfl) ?_
      refine z_iald hX hH 11 6 rfl h4 (by decide) dX8_read_23 ?_
      refine z_iconst hx hb dX8_read_24 ?_
      refine z_isub hx hb dX8_read_25 ?_
      obtain ⟨r6, c7, hF⟩ := zc_e hF
      refine z_callSi (As := [.int (nZ a2), .int (nZ (0:Int)), .int (nZ ((M 11 a1.toNat) - (1:Int)))]) (is := []) (Ll := []) hX hH rfl (ctX8_in l D cs (zsb [] α) N (zpk [] M) a2 (0:Int) ((M 11 a1.toNat) - (1:Int)) r6 c7) (va_cwS 3 hts gX8_read_X8_in rfl rfl rfl (by decide +kernel) ⟨Nat.le_of_ble_eq_true rfl, Nat.le_of_ble_eq_true rfl⟩) rfl hl.1 (Nat.le_of_ble_eq_true rfl) rfl dX8_read_26 ⟨Nat.zero_le _, Nat.zero_le _⟩ (fun H locs hH => ?_)
      have hH : zH D cs LM α M (zA LM.length α) s H locs := hH
      obtain ⟨h8, hF⟩ := zg_e hF
      refine z_if_eq (tgt := 43) hx hb h8 dX8_read_29 (by decide) (fun hc => ?_) (fun hc => ?_)
      · have hF := zi_t hF hc
        refine z_ldc2 (v := (-9223372036854775808:Int)) (n := -9223372036854775808) hx hb hX.1.2.2.2.1 (hts (.constantLong RX8 104 (-9223372036854775808)) (by decide +kernel)) (by decide +kernel) dX8_read_43 ?_
        exact z_lret hX hr hlocks hH hF dX8_read_46
      · have hF := zi_f hF hc
        refine lv_aload_n hx hb dX8_read_32 rfl (lv_at hl 0 rfl) ?_
        refine z_getr hX hH 0 15 12 rfl rfl flX8_read_47 dX8_read_33 ?_
        refine lv_iload_n hx hb dX8_read_36 rfl (lv_at hl 1 rfl) ?_
        have h9 : a1.toNat < 6 := by have := h4.1; have := h4.2; omega
        refine z_aald (ts := [13, 14, 15, 16, 17, 18]) hX hH 12 5 (13 + 1 * a1.toNat) rfl rfl rfl h4 (by decide) (ra_LM_13 a1.toNat h9) dX8_read_37 ?_
        refine lv_iload_n hx hb dX8_read_38 rfl (lv_at hl 2 rfl) ?_
        obtain ⟨h10, hF⟩ := zg_e hF
        refine z_lald hX hH (13 + 1 * a1.toNat) 60 (fm_LM_13_0 a1.toNat h9) h10 (by decide) dX8_read_39 ?_
        refine lv_goto (tgt := 46) hx hb dX8_read_40 (by decide) ?_
        exact z_lret hX hr hlocks hH hF dX8_read_46
theorem flX8_shift_39 : zF RX8 wsX8_shift 39 8 13 := ⟨_, TX8, _, rfl, by decide +kernel, by decide +kernel, by decide, rfl⟩
theorem flX8_shift_42 : zF RX8 wsX8_shift 42 8 14 := ⟨_, TX8, _, rfl, by decide +kernel, by decide +kernel, by decide, rfl⟩
theorem flX8_shift_47 : zF RX8 wsX8_shift 47 8 15 := ⟨_, TX8, _, rfl, by decide +kernel, by decide +kernel, by decide, rfl⟩
theorem flX8_shift_50 : zF RX8 wsX8_shift 50 8 16 := ⟨_, TX8, _, rfl, by decide +kernel, by decide +kernel, by decide, rfl⟩
set_option maxHeartbeats 4000000 in
set_option maxRecDepth 100000 in
theorem ctX8_shift (l : Launch) (D : va_G) (cs : Nat → ClassId) (α : Nat → Nat) (N : Nat) (M : zM) (a1 : Int) (a2 : Int) (a3 : Int) (a4 : Int) (a5 : Int) (r : Int) (M' : zM) (hF : fX8_shift N a1 a2 a3 a4 a5 M = some (r, M')) : Met l yX8_shift wsX8_shift ({ frames := 2, cells := 0, slots := 0, locals := 42 }) (zPre D cs LM α M [.ref (α 0), .int (nZ a1), .int (nZ a2), .int (nZ a3), .int (nZ a4), .int (nZ a5)]) (zQi D cs LM α r M') 0 0 (zA LM.length α) := by
  refine z_met (cc := cX8_shift) (maxL := 7) (ret := (some .int)) (by decide +kernel) rfl RX8 rfl (Nat.le_of_ble_eq_true rfl) ?_
  intro p e s m below meth c ls hX hr hlocks hH hl
  have hx := hX.1.1
  have hb := hX.1.2.1
  have hts := hX.1.2.2.2.2
  have L158 : ∀ (n : Nat) (x3 : Int) (x4 : Int) (x5 : Int) (x6 : Int) (M0 : zM), fX8_shift_158 N n x3 x4 x5 x6 M0 = some (r, M') → zGo p l e (headSpec wsX8_shift ({ frames := 2, cells := 0, slots := 0, locals := 42 })).room s m ([.ref (α 0), .int (nZ a1), .int (nZ a2), .int (nZ a3), .int (nZ a4), .int (nZ a5)] : List Value).toArray below meth c (MQ below (zQi D cs LM α r M') ([.ref (α 0), .int (nZ a1), .int (nZ a2), .int (nZ a3), .int (nZ a4), .int (nZ a5)] : List Value).toArray s 0 0 (zA LM.length α)) D cs LM α (zA LM.length α) 7 158 [(0, .ref (α 0)), (3, .int (nZ x3)), (4, .int (nZ x4)), (5, .int (nZ x5)), (6, .int (nZ x6))] [] M0 := by
    intro  n
    induction n with
    | zero =>
      intro x3 x4 x5 x6 M0 hF
      have hF : (none : Option (Int × zM)) = some (r, M') := hF
      cases hF
    | succ n hk158 =>
      intro x3 x4 x5 x6 M0 hF H locs ls hH hl
      have hF : sX8_shift_158 N (fun x3 x4 x5 x6 M0 => fX8_shift_158 N n x3 x4 x5 x6 M0) x3 x4 x5 x6 M0 = some (r, M') := hF
      unfold sX8_shift_158 at hF
      refine lv_iload hx hb dX8_shift_158 (lv_at hl 4 rfl) ?_
      refine lv_iload hx hb dX8_shift_160 (lv_at hl 3 rfl) ?_
      obtain ⟨h22, hF⟩ := zg_e hF
      obtain ⟨h23, hF⟩ := zg_e hF
      refine z_icmp_ge (tgt := 190) hx hb h22 h23 dX8_shift_162 (by decide) (fun hc => ?_) (fun hc => ?_)
      · have hF := zi_t hF hc
        refine lv_iload hx hb dX8_shift_190 (lv_at hl 3 rfl) ?_
        exact z_iret hX hr hlocks hH hF rfl dX8_shift_192
      · have hF := zi_f hF hc
        refine lv_aload_n hx hb dX8_shift_165 rfl (lv_at hl 0 rfl) ?_
        refine z_getr hX hH 0 15 12 rfl rfl flX8_shift_47 dX8_shift_166 ?_
        refine lv_iload_n hx hb dX8_shift_169 rfl (lv_at hl 1 rfl) ?_
        obtain ⟨h24, hF⟩ := zg_e hF
        have h25 : x3.toNat < 6 := by have := h24.1; have := h24.2; omega
        refine z_aald (ts := [13, 14, 15, 16, 17, 18]) hX hH 12 5 (13 + 1 * x3.toNat) rfl rfl rfl h24 (by decide) (ra_LM_13 x3.toNat h25) dX8_shift_170 ?_
        refine lv_iload hx hb dX8_shift_171 (lv_at hl 2 rfl) ?_
        refine lv_iload hx hb dX8_shift_173 (lv_at hl 4 rfl) ?_
        refine z_iadd hx hb dX8_shift_175 ?_
        refine lv_aload_n hx hb dX8_shift_176 rfl (lv_at hl 0 rfl) ?_
        refine z_getr hX hH 0 16 19 rfl rfl flX8_shift_50 dX8_shift_177 ?_
        refine lv_iload hx hb dX8_shift_180 (lv_at hl 4 rfl) ?_
        obtain ⟨h26, hF⟩ := zg_e hF
        refine z_lald hX hH 19 60 rfl h26 (by decide) dX8_shift_182 ?_
        obtain ⟨h27, hF⟩ := zg_e hF
        obtain ⟨M28, eM28, hF⟩ := zl_e hF
        refine z_last hX hH (13 + 1 * x3.toNat) 60 eM28 (fm_LM_13_0 x3.toNat h25) h27 (by decide) dX8_shift_183 (fun H locs hH => ?_)
        obtain ⟨v29, ev29, hF⟩ := zl_e hF
        refine z_iinc ev29 (lv' := [(6, .int (nZ v29)), (0, .ref (α 0)), (3, .int (nZ x3)), (4, .int (nZ x4)), (5, .int (nZ x5))]) hx hb dX8_shift_184 hl (k := 4) rfl (by decide) rfl (fun ls hl => ?_)
        refine lv_goto (tgt := 158) hx hb dX8_shift_187 (by decide) ?_
        exact hk158 x3 x4 x5 v29 M28 hF _ _ _ hH (lv_sub hl [1, 2, 3, 4, 0] rfl)
  have L124 : ∀ (n : Nat) (x1 : Int) (x2 : Int) (x3 : Int) (x4 : Int) (x5 : Int) (x6 : Int) (M0 : zM), fX8_shift_124 N n x1 x2 x3 x4 x5 x6 M0 = some (r, M') → zGo p l e (headSpec wsX8_shift ({ frames := 2, cells := 0, slots := 0, locals := 42 })).room s m ([.ref (α 0), .int (nZ a1), .int (nZ a2), .int (nZ a3), .int (nZ a4), .int (nZ a5)] : List Value).toArray below meth c (MQ below (zQi D cs LM α r M') ([.ref (α 0), .int (nZ a1), .int (nZ a2), .int (nZ a3), .int (nZ a4), .int (nZ a5)] : List Value).toArray s 0 0 (zA LM.length α)) D cs LM α (zA LM.length α) 7 124 [(0, .ref (α 0)), (1, .int (nZ x1)), (2, .int (nZ x2)), (3, .int (nZ x3)), (4, .int (nZ x4)), (5, .int (nZ x5)), (6, .int (nZ x6))] [] M0 := by
    intro  n
    induction n with
    | zero =>
      intro x1 x2 x3 x4 x5 x6 M0 hF
      have hF : (none : Option (Int × zM)) = some (r, M') := hF
      cases hF
    | succ n hk124 =>
      intro x1 x2 x3 x4 x5 x6 M0 hF H locs ls hH hl
      have hF : sX8_shift_124 N (fun x1 x2 x3 x4 x5 x6 M0 => fX8_shift_124 N n x1 x2 x3 x4 x5 x6 M0) x1 x2 x3 x4 x5 x6 M0 = some (r, M') := hF
      unfold sX8_shift_124 at hF
      refine lv_iload hx hb dX8_shift_124 (lv_at hl 6 rfl) ?_
      refine lv_iload hx hb dX8_shift_126 (lv_at hl 5 rfl) ?_
      obtain ⟨h19, hF⟩ := zg_e hF
      obtain ⟨h20, hF⟩ := zg_e hF
      refine z_icmp_ge (tgt := 155) hx hb h19 h20 dX8_shift_128 (by decide) (fun hc => ?_) (fun hc => ?_)
      · have hF := zi_t hF hc
        refine z_iconst hx hb dX8_shift_155 ?_
        obtain ⟨v21, ev21, hF⟩ := zl_e hF
        refine z_istore ev21 (lv' := [(6, .int (nZ v21)), (0, .ref (α 0)), (1, .int (nZ x1)), (2, .int (nZ x2)), (3, .int (nZ x3)), (4, .int (nZ x4)), (5, .int (nZ x5))]) hx hb dX8_shift_156 hl (by decide) rfl (fun ls hl => ?_)
        exact L158 N x3 x4 x5 v21 M0 hF _ _ _ hH (lv_sub hl [1, 4, 5, 6, 0] rfl)
      · have hF := zi_f hF hc
        refine lv_aload_n hx hb dX8_shift_131 rfl (lv_at hl 0 rfl) ?_
        refine z_getr hX hH 0 16 19 rfl rfl flX8_shift_50 dX8_shift_132 ?_
        refine lv_iload hx hb dX8_shift_135 (lv_at hl 6 rfl) ?_
        refine lv_aload_n hx hb dX8_shift_137 rfl (lv_at hl 0 rfl) ?_
        refine z_getr hX hH 0 15 12 rfl rfl flX8_shift_47 dX8_shift_138 ?_
        refine lv_iload_n hx hb dX8_shift_141 rfl (lv_at hl 1 rfl) ?_
        obtain ⟨h30, hF⟩ := zg_e hF
        have h31 : x1.toNat < 6 := by have := h30.1; have := h30.2; omega
        refine z_aald (ts := [13, 14, 15, 16, 17, 18]) hX hH 12 5 (13 + 1 * x1.toNat) rfl rfl rfl h30 (by decide) (ra_LM_13 x1.toNat h31) dX8_shift_142 ?_
        refine lv_iload_n hx hb dX8_shift_143 rfl (lv_at hl 2 rfl) ?_
        refine lv_iload hx hb dX8_shift_144 (lv_at hl 6 rfl) ?_
        refine z_iadd hx hb dX8_shift_146 ?_
        obtain ⟨h32, hF⟩ := zg_e hF
        refine z_lald hX hH (13 + 1 * x1.toNat) 60 (fm_LM_13_0 x1.toNat h31) h32 (by decide) dX8_shift_147 ?_
        obtain ⟨h33, hF⟩ := zg_e hF
        obtain ⟨M34, eM34, hF⟩ := zl_e hF
        refine z_last hX hH 19 60 eM34 rfl h33 (by decide) dX8_shift_148 (fun H locs hH => ?_)
        obtain ⟨v35, ev35, hF⟩ := zl_e hF
        refine z_iinc ev35 (lv' := [(6, .int (nZ v35)), (0, .ref (α 0)), (1, .int (nZ x1)), (2, .int (nZ x2)), (3, .int (nZ x3)), (4, .int (nZ x4)), (5, .int (nZ x5))]) hx hb dX8_shift_149 hl (k := 6) rfl (by decide) rfl (fun ls hl => ?_)
        refine lv_goto (tgt := 124) hx hb dX8_shift_152 (by decide) ?_
        exact hk124 x1 x2 x3 x4 x5 v35 M34 hF _ _ _ hH (lv_sub hl [1, 2, 3, 4, 5, 6, 0] rfl)
  have hl : lv_has ls 7 [(0, .ref (α 0)), (1, .int (nZ a1)), (2, .int (nZ a2)), (3, .int (nZ a3)), (4, .int (nZ a4)), (5, .int (nZ a5))] := hl
  unfold fX8_shift at hF
  refine lv_iload_n hx hb dX8_shift_0 rfl (lv_at hl 1 rfl) ?_
  obtain ⟨r1, c2, hF⟩ := zc_e hF
  refine z_callSi (As := [.int (nZ a1)]) (is := []) (Ll := []) hX hH rfl (ctX8_isTape l D cs (zsb [] α) N (zpk [] M) a1 r1 c2) (va_cwS 1 hts gX8_shift_X8_isTape rfl rfl rfl (by decide +kernel) ⟨Nat.le_of_ble_eq_true rfl, Nat.le_of_ble_eq_true rfl⟩) rfl hl.1 (Nat.le_of_ble_eq_true rfl) rfl dX8_shift_1 ⟨Nat.zero_le _, Nat.zero_le _⟩ (fun H locs hH => ?_)
  have hH : zH D cs LM α M (zA LM.length α) s H locs := hH
  obtain ⟨h3, hF⟩ := zg_e hF
  refine z_if_eq (tgt := 14) hx hb h3 dX8_shift_4 (by decide) (fun hc => ?_) (fun hc => ?_)
  · have hF := zi_t hF hc
    refine z_iconst hx hb dX8_shift_14 ?_
    exact z_iret hX hr hlocks hH hF rfl dX8_shift_15
  · have hF := zi_f hF hc
    refine lv_iload_n hx hb dX8_shift_7 rfl (lv_at hl 3 rfl) ?_
    obtain ⟨r4, c5, hF⟩ := zc_e hF
    refine z_callSi (As := [.int (nZ a3)]) (is := []) (Ll := []) hX hH rfl (ctX8_isTape l D cs (zsb [] α) N (zpk [] M) a3 r4 c5) (va_cwS 1 hts gX8_shift_X8_isTape rfl rfl rfl (by decide +kernel) ⟨Nat.le_of_ble_eq_true rfl, Nat.le_of_ble_eq_true rfl⟩) rfl hl.1 (Nat.le_of_ble_eq_true rfl) rfl dX8_shift_8 ⟨Nat.zero_le _, Nat.zero_le _⟩ (fun H locs hH => ?_)
    have hH : zH D cs LM α M (zA LM.length α) s H locs := hH
    obtain ⟨h6, hF⟩ := zg_e hF
    refine z_if_ne (tgt := 16) hx hb h6 dX8_shift_11 (by decide) (fun hc => ?_) (fun hc => ?_)
    · have hF := zi_f hF hc
      refine lv_aload_n hx hb dX8_shift_16 rfl (lv_at hl 0 rfl) ?_
      refine z_getr hX hH 0 13 10 rfl rfl flX8_shift_39 dX8_shift_17 ?_
      refine lv_iload_n hx hb dX8_shift_20 rfl (lv_at hl 1 rfl) ?_
      obtain ⟨h7, hF⟩ := zg_e hF
      refine z_iald hX hH 10 6 rfl h7 (by decide) dX8_shift_21 ?_
      obtain ⟨h8, hF⟩ := zg_e hF
      refine z_if_lt (tgt := 34) hx hb h8 dX8_shift_22 (by decide) (fun hc => ?_) (fun hc => ?_)
      · have hF := zi_t hF hc
        refine z_bipush (v := -11) hx hb dX8_shift_34 (by decide +kernel) ?_
        exact z_iret hX hr hlocks hH hF rfl dX8_shift_36
      · have hF := zi_f hF hc
        refine lv_aload_n hx hb dX8_shift_25 rfl (lv_at hl 0 rfl) ?_
        refine z_getr hX hH 0 13 10 rfl rfl flX8_shift_39 dX8_shift_26 ?_
        refine lv_iload_n hx hb dX8_shift_29 rfl (lv_at hl 3 rfl) ?_
        obtain ⟨h9, hF⟩ := zg_e hF
        refine z_iald hX hH 10 6 rfl h9 (by decide) dX8_shift_30 ?_
        obtain ⟨h10, hF⟩ := zg_e hF
        refine z_if_ge (tgt := 37) hx hb h10 dX8_shift_31 (by decide) (fun hc => ?_) (fun hc => ?_)
        · have hF := zi_t hF hc
          refine lv_aload_n hx hb dX8_shift_37 rfl (lv_at hl 0 rfl) ?_
          refine z_getr hX hH 0 13 10 rfl rfl flX8_shift_39 dX8_shift_38 ?_
          refine lv_iload_n hx hb dX8_shift_41 rfl (lv_at hl 1 rfl) ?_
          refine z_iald hX hH 10 6 rfl h7 (by decide) dX8_shift_42 ?_
          refine lv_aload_n hx hb dX8_shift_43 rfl (lv_at hl 0 rfl) ?_
          refine z_getr hX hH 0 13 10 rfl rfl flX8_shift_39 dX8_shift_44 ?_
          refine lv_iload_n hx hb dX8_shift_47 rfl (lv_at hl 3 rfl) ?_
          refine z_iald hX hH 10 6 rfl h9 (by decide) dX8_shift_48 ?_
          refine z_icmp_eq (tgt := 55) hx hb h8 h10 dX8_shift_49 (by decide) (fun hc => ?_) (fun hc => ?_)
          · have hF := zi_t hF hc
            refine lv_iload hx hb dX8_shift_55 (lv_at hl 5 rfl) ?_
            obtain ⟨h11, hF⟩ := zg_e hF
            refine z_if_lt (tgt := 118) hx hb h11 dX8_shift_57 (by decide) (fun hc => ?_) (fun hc => ?_)
            · have hF := zi_t hF hc
              refine z_bipush (v := -13) hx hb dX8_shift_118 (by decide +kernel) ?_
              exact z_iret hX hr hlocks hH hF rfl dX8_shift_120
            · have hF := zi_f hF hc
              refine lv_iload_n hx hb dX8_shift_60 rfl (lv_at hl 2 rfl) ?_
              obtain ⟨h12, hF⟩ := zg_e hF
              refine z_if_lt (tgt := 118) hx hb h12 dX8_shift_61 (by decide) (fun hc => ?_) (fun hc => ?_)
              · have hF := zi_t hF hc
                refine z_bipush (v := -13) hx hb dX8_shift_118 (by decide +kernel) ?_
                exact z_iret hX hr hlocks hH hF rfl dX8_shift_120
              · have hF := zi_f hF hc
                refine lv_iload hx hb dX8_shift_64 (lv_at hl 4 rfl) ?_
                obtain ⟨h13, hF⟩ := zg_e hF
                refine z_if_lt (tgt := 118) hx hb h13 dX8_shift_66 (by decide) (fun hc => ?_) (fun hc => ?_)
                · have hF := zi_t hF hc
                  refine z_bipush (v := -13) hx hb dX8_shift_118 (by decide +kernel) ?_
                  exact z_iret hX hr hlocks hH hF rfl dX8_shift_120
                · have hF := zi_f hF hc
                  refine lv_iload hx hb dX8_shift_69 (lv_at hl 5 rfl) ?_
                  refine lv_aload_n hx hb dX8_shift_71 rfl (lv_at hl 0 rfl) ?_
                  refine z_getr hX hH 0 14 11 rfl rfl flX8_shift_42 dX8_shift_72 ?_
                  refine lv_iload_n hx hb dX8_shift_75 rfl (lv_at hl 1 rfl) ?_
                  refine z_iald hX hH 11 6 rfl h7 (by decide) dX8_shift_76 ?_
                  obtain ⟨h14, hF⟩ := zg_e hF
                  refine z_icmp_gt (tgt := 118) hx hb h11 h14 dX8_shift_77 (by decide) (fun hc => ?_) (fun hc => ?_)
                  · have hF := zi_t hF hc
                    refine z_bipush (v := -13) hx hb dX8_shift_118 (by decide +kernel) ?_
                    exact z_iret hX hr hlocks hH hF rfl dX8_shift_120
                  · have hF := zi_f hF hc
                    refine lv_iload hx hb dX8_shift_80 (lv_at hl 5 rfl) ?_
                    refine lv_aload_n hx hb dX8_shift_82 rfl (lv_at hl 0 rfl) ?_
                    refine z_getr hX hH 0 14 11 rfl rfl flX8_shift_42 dX8_shift_83 ?_
                    refine lv_iload_n hx hb dX8_shift_86 rfl (lv_at hl 3 rfl) ?_
                    refine z_iald hX hH 11 6 rfl h9 (by decide) dX8_shift_87 ?_
                    obtain ⟨h15, hF⟩ := zg_e hF
                    refine z_icmp_gt (tgt := 118) hx hb h11 h15 dX8_shift_88 (by decide) (fun hc => ?_) (fun hc => ?_)
                    · have hF := zi_t hF hc
                      refine z_bipush (v := -13) hx hb dX8_shift_118 (by decide +kernel) ?_
                      exact z_iret hX hr hlocks hH hF rfl dX8_shift_120
                    · have hF := zi_f hF hc
                      refine lv_iload_n hx hb dX8_shift_91 rfl (lv_at hl 2 rfl) ?_
                      refine lv_aload_n hx hb dX8_shift_92 rfl (lv_at hl 0 rfl) ?_
                      refine z_getr hX hH 0 14 11 rfl rfl flX8_shift_42 dX8_shift_93 ?_
                      refine lv_iload_n hx hb dX8_shift_96 rfl (lv_at hl 1 rfl) ?_
                      refine z_iald hX hH 11 6 rfl h7 (by decide) dX8_shift_97 ?_
                      refine lv_iload hx hb dX8_shift_98 (lv_at hl 5 rfl) ?_
                      refine z_isub hx hb dX8_shift_100 ?_
                      obtain ⟨h16, hF⟩ := zg_e hF
                      refine z_icmp_gt (tgt := 118) hx hb h12 h16 dX8_shift_101 (by decide) (fun hc => ?_) (fun hc => ?_)
                      · have hF := zi_t hF hc
                        refine z_bipush (v := -13) hx hb dX8_shift_118 (by decide +kernel) ?_
                        exact z_iret hX hr hlocks hH hF rfl dX8_shift_120
                      · have hF := zi_f hF hc
                        refine lv_iload hx hb dX8_shift_104 (lv_at hl 4 rfl) ?_
                        refine lv_aload_n hx hb dX8_shift_106 rfl (lv_at hl 0 rfl) ?_
                        refine z_getr hX hH 0 14 11 rfl rfl flX8_shift_42 dX8_shift_107 ?_
                        refine lv_iload_n hx hb dX8_shift_110 rfl (lv_at hl 3 rfl) ?_
                        refine z_iald hX hH 11 6 rfl h9 (by decide) dX8_shift_111 ?_
                        refine lv_iload hx hb dX8_shift_112 (lv_at hl 5 rfl) ?_
                        refine z_isub hx hb dX8_shift_114 ?_
                        obtain ⟨h17, hF⟩ := zg_e hF
                        refine z_icmp_le (tgt := 121) hx hb h13 h17 dX8_shift_115 (by decide) (fun hc => ?_) (fun hc => ?_)
                        · have hF := zi_t hF hc
                          refine z_iconst hx hb dX8_shift_121 ?_
                          obtain ⟨v18, ev18, hF⟩ := zl_e hF
                          refine z_istore ev18 (lv' := [(6, .int (nZ v18)), (0, .ref (α 0)), (1, .int (nZ a1)), (2, .int (nZ a2)), (3, .int (nZ a3)), (4, .int (nZ a4)), (5, .int (nZ a5))]) hx hb dX8_shift_122 hl (by decide) rfl (fun ls hl => ?_)
                          exact L124 N a1 a2 a3 a4 a5 v18 M hF _ _ _ hH (lv_sub hl [1, 2, 3, 4, 5, 6, 0] rfl)
                        · have hF := zi_f hF hc
                          refine z_bipush (v := -13) hx hb dX8_shift_118 (by decide +kernel) ?_
                          exact z_iret hX hr hlocks hH hF rfl dX8_shift_120
          · have hF := zi_f hF hc
            refine z_bipush (v := -12) hx hb dX8_shift_52 (by decide +kernel) ?_
            exact z_iret hX hr hlocks hH hF rfl dX8_shift_54
        · have hF := zi_f hF hc
          refine z_bipush (v := -11) hx hb dX8_shift_34 (by decide +kernel) ?_
          exact z_iret hX hr hlocks hH hF rfl dX8_shift_36
    · have hF := zi_t hF hc
      refine z_iconst hx hb dX8_shift_14 ?_
      exact z_iret hX hr hlocks hH hF rfl dX8_shift_15
