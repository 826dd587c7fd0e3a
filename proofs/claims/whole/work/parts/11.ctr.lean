/-! laid by wip/whole/gen.py: contracts -/
theorem flX0_copyFrom_9 : zF RX0 wsX0_copyFrom 9 0 0 := ⟨_, TX0, _, rfl, by decide +kernel, by decide +kernel, by decide, rfl⟩
theorem flX0_copyFrom_15 : zF RX0 wsX0_copyFrom 15 0 1 := ⟨_, TX0, _, rfl, by decide +kernel, by decide +kernel, by decide, rfl⟩
theorem flX0_copyFrom_24 : zF RX0 wsX0_copyFrom 24 0 2 := ⟨_, TX0, _, rfl, by decide +kernel, by decide +kernel, by decide, rfl⟩
theorem fpX0_copyFrom_24 : zFp RX0 wsX0_copyFrom 24 0 2 .int := ⟨_, TX0, _, tyX0, rfl, by decide +kernel, by decide +kernel, by decide, rfl, tyX0_ok, nmX0, rfl, by decide +kernel⟩
set_option maxHeartbeats 4000000 in
set_option maxRecDepth 100000 in
theorem ctX0_copyFrom (l : Launch) (D : va_G) (cs : Nat → ClassId) (α : Nat → Nat) (N : Nat) (M : zM) (M' : zM) (hF : fX0_copyFrom N M = some M') : Met l yX0_copyFrom wsX0_copyFrom ({ frames := 1, cells := 0, slots := 0, locals := 40 }) (zPre D cs LBook2 α M [.ref (α 0), .ref (α 3)]) (zQv D cs LBook2 α M') 0 0 (zA LBook2.length α) := by
  refine z_met (cc := cX0_copyFrom) (maxL := 2) (ret := none) (by decide +kernel) rfl RX0 rfl (Nat.le_of_ble_eq_true rfl) ?_
  intro p e s m below meth c ls hX hr hlocks hH hl
  have hx := hX.1.1
  have hb := hX.1.2.1
  have hts := hX.1.2.2.2.2
  have hl : lv_has ls 2 [(0, .ref (α 0)), (1, .ref (α 3))] := hl
  unfold fX0_copyFrom at hF
  refine lv_aload_n hx hb dX0_copyFrom_0 rfl (lv_at hl 1 rfl) ?_
  refine z_getr hX hH 3 0 4 rfl rfl flX0_copyFrom_9 dX0_copyFrom_1 ?_
  refine z_iconst hx hb dX0_copyFrom_4 ?_
  refine lv_aload_n hx hb dX0_copyFrom_5 rfl (lv_at hl 0 rfl) ?_
  refine z_getr hX hH 0 0 1 rfl rfl flX0_copyFrom_9 dX0_copyFrom_6 ?_
  refine z_iconst hx hb dX0_copyFrom_9 ?_
  refine z_bipush (v := 8) hx hb dX0_copyFrom_10 (by decide +kernel) ?_
  obtain ⟨M1, eM1, hF⟩ := zl_e hF
  refine z_copyi hX hH hl.1 4 1 eM1 rfl rfl (hts (.methodLink RX0 18 arraycopyName) (by decide +kernel)) (hts (.native arraycopyName) (by decide +kernel)) (hts (.static arraycopyName) (by decide +kernel)) (hts (.initialized "java/lang/System") (by decide +kernel)) (by decide) (by decide) (by decide) (Nat.le_of_ble_eq_true rfl) (Nat.le_of_ble_eq_true rfl) dX0_copyFrom_12 (fun H locs hH => ?_)
  refine lv_aload_n hx hb dX0_copyFrom_15 rfl (lv_at hl 1 rfl) ?_
  refine z_getr hX hH 3 1 5 rfl rfl flX0_copyFrom_15 dX0_copyFrom_16 ?_
  refine z_iconst hx hb dX0_copyFrom_19 ?_
  refine lv_aload_n hx hb dX0_copyFrom_20 rfl (lv_at hl 0 rfl) ?_
  refine z_getr hX hH 0 1 2 rfl rfl flX0_copyFrom_15 dX0_copyFrom_21 ?_
  refine z_iconst hx hb dX0_copyFrom_24 ?_
  refine z_bipush (v := 8) hx hb dX0_copyFrom_25 (by decide +kernel) ?_
  obtain ⟨M2, eM2, hF⟩ := zl_e hF
  refine z_copyi hX hH hl.1 5 2 eM2 rfl rfl (hts (.methodLink RX0 18 arraycopyName) (by decide +kernel)) (hts (.native arraycopyName) (by decide +kernel)) (hts (.static arraycopyName) (by decide +kernel)) (hts (.initialized "java/lang/System") (by decide +kernel)) (by decide) (by decide) (by decide) (Nat.le_of_ble_eq_true rfl) (Nat.le_of_ble_eq_true rfl) dX0_copyFrom_27 (fun H locs hH => ?_)
  refine lv_aload_n hx hb dX0_copyFrom_30 rfl (lv_at hl 0 rfl) ?_
  refine lv_aload_n hx hb dX0_copyFrom_31 rfl (lv_at hl 1 rfl) ?_
  refine z_geti hX hH 3 2 rfl rfl flX0_copyFrom_24 dX0_copyFrom_32 ?_
  obtain ⟨M3, eM3, hF⟩ := zl_e hF
  refine z_put hX hH 0 2 eM3 rfl rfl fpX0_copyFrom_24 rfl rfl dX0_copyFrom_35 (fun H locs hH => ?_)
  exact z_vret hX hr hlocks hH hF dX0_copyFrom_38
theorem flX1_copyFrom_9 : zF RX1 wsX1_copyFrom 9 1 0 := ⟨_, TX1, _, rfl, by decide +kernel, by decide +kernel, by decide, rfl⟩
theorem flX1_copyFrom_21 : zF RX1 wsX1_copyFrom 21 1 1 := ⟨_, TX1, _, rfl, by decide +kernel, by decide +kernel, by decide, rfl⟩
theorem fpX1_copyFrom_21 : zFp RX1 wsX1_copyFrom 21 1 1 .int := ⟨_, TX1, _, tyX1, rfl, by decide +kernel, by decide +kernel, by decide, rfl, tyX1_ok, nmX1, rfl, by decide +kernel⟩
set_option maxHeartbeats 4000000 in
set_option maxRecDepth 100000 in
theorem ctX1_copyFrom (l : Launch) (D : va_G) (cs : Nat → ClassId) (α : Nat → Nat) (N : Nat) (M : zM) (M' : zM) (hF : fX1_copyFrom N M = some M') : Met l yX1_copyFrom wsX1_copyFrom ({ frames := 1, cells := 0, slots := 0, locals := 40 }) (zPre D cs LLeav2 α M [.ref (α 0), .ref (α 2)]) (zQv D cs LLeav2 α M') 0 0 (zA LLeav2.length α) := by
  refine z_met (cc := cX1_copyFrom) (maxL := 2) (ret := none) (by decide +kernel) rfl RX1 rfl (Nat.le_of_ble_eq_true rfl) ?_
  intro p e s m below meth c ls hX hr hlocks hH hl
  have hx := hX.1.1
  have hb := hX.1.2.1
  have hts := hX.1.2.2.2.2
  have hl : lv_has ls 2 [(0, .ref (α 0)), (1, .ref (α 2))] := hl
  unfold fX1_copyFrom at hF
  refine lv_aload_n hx hb dX1_copyFrom_0 rfl (lv_at hl 1 rfl) ?_
  refine z_getr hX hH 2 0 3 rfl rfl flX1_copyFrom_9 dX1_copyFrom_1 ?_
  refine z_iconst hx hb dX1_copyFrom_4 ?_
  refine lv_aload_n hx hb dX1_copyFrom_5 rfl (lv_at hl 0 rfl) ?_
  refine z_getr hX hH 0 0 1 rfl rfl flX1_copyFrom_9 dX1_copyFrom_6 ?_
  refine z_iconst hx hb dX1_copyFrom_9 ?_
  refine z_sipush (v := 400) hx hb dX1_copyFrom_10 (by decide +kernel) ?_
  obtain ⟨M1, eM1, hF⟩ := zl_e hF
  refine z_copyi hX hH hl.1 3 1 eM1 rfl rfl (hts (.methodLink RX1 15 arraycopyName) (by decide +kernel)) (hts (.native arraycopyName) (by decide +kernel)) (hts (.static arraycopyName) (by decide +kernel)) (hts (.initialized "java/lang/System") (by decide +kernel)) (by decide) (by decide) (by decide) (Nat.le_of_ble_eq_true rfl) (Nat.le_of_ble_eq_true rfl) dX1_copyFrom_13 (fun H locs hH => ?_)
  refine lv_aload_n hx hb dX1_copyFrom_16 rfl (lv_at hl 0 rfl) ?_
  refine lv_aload_n hx hb dX1_copyFrom_17 rfl (lv_at hl 1 rfl) ?_
  refine z_geti hX hH 2 1 rfl rfl flX1_copyFrom_21 dX1_copyFrom_18 ?_
  obtain ⟨M2, eM2, hF⟩ := zl_e hF
  refine z_put hX hH 0 1 eM2 rfl rfl fpX1_copyFrom_21 rfl rfl dX1_copyFrom_21 (fun H locs hH => ?_)
  exact z_vret hX hr hlocks hH hF dX1_copyFrom_24
set_option maxHeartbeats 4000000 in
set_option maxRecDepth 100000 in
theorem ctJ9_floorMod_7cf53 (l : Launch) (D : va_G) (cs : Nat → ClassId) (α : Nat → Nat) (N : Nat) (M : zM) (a1 : Int) (a2 : Int) (r : Int) (hF : fJ9_floorMod_7cf53 N a1 a2 = some r) : Met l yJ9_floorMod_7cf53 wsJ9_floorMod_7cf53 ({ frames := 0, cells := 0, slots := 0, locals := 0 }) (zPre D cs LNo α M [.int (nZ a1), .int (nZ a2)]) (zQi D cs LNo α r M) 0 0 (zA LNo.length α) := by
  refine z_metF (cc := cJ9_floorMod_7cf53) (maxL := 3) (ret := (some .int)) (by decide +kernel) rfl RJ9 rfl (Nat.le_of_ble_eq_true rfl) ?_
  intro p e s m below meth c ls hX hr hlocks hH hl
  have hx := hX.1.1
  have hb := hX.1.2.1
  have hts := hX.1.2.2.2.2
  have J18 : ∀ (x2 : Int), sJ9_floorMod_7cf53_18 N x2 = some r → zGo p l e (headSpec wsJ9_floorMod_7cf53 ({ frames := 0, cells := 0, slots := 0, locals := 0 })).room s m ([.int (nZ a1), .int (nZ a2)] : List Value).toArray below meth c (MQ below (zQi D cs LNo α r M) ([.int (nZ a1), .int (nZ a2)] : List Value).toArray s 0 0 (zA LNo.length α)) D cs LNo α (zA LNo.length α) 3 18 [(2, .int (nZ x2))] [] M := by
    intro x2 hF H locs ls hH hl
    unfold sJ9_floorMod_7cf53_18 at hF
    refine lv_iload_n hx hb dJ9_floorMod_7cf53_18 rfl (lv_at hl 0 rfl) ?_
    exact z_iretP hX hr hlocks hH hF rfl dJ9_floorMod_7cf53_19
  have hl : lv_has ls 3 [(0, .int (nZ a1)), (1, .int (nZ a2))] := hl
  unfold fJ9_floorMod_7cf53 at hF
  refine lv_iload_n hx hb dJ9_floorMod_7cf53_0 rfl (lv_at hl 0 rfl) ?_
  refine lv_iload_n hx hb dJ9_floorMod_7cf53_1 rfl (lv_at hl 1 rfl) ?_
  obtain ⟨h1, hF⟩ := zg_e hF
  refine z_irem hx hb h1.1 h1.2 dJ9_floorMod_7cf53_2 ?_
  obtain ⟨v2, ev2, hF⟩ := zl_e hF
  refine z_istore_n ev2 (lv' := [(2, .int (nZ v2)), (0, .int (nZ a1)), (1, .int (nZ a2))]) hx hb dJ9_floorMod_7cf53_3 rfl hl (by decide) rfl (fun ls hl => ?_)
  refine lv_iload_n hx hb dJ9_floorMod_7cf53_4 rfl (lv_at hl 1 rfl) ?_
  refine lv_iload_n hx hb dJ9_floorMod_7cf53_5 rfl (lv_at hl 2 rfl) ?_
  refine z_ixor hx hb dJ9_floorMod_7cf53_6 ?_
  obtain ⟨h3, hF⟩ := zg_e hF
  refine z_if_ge (tgt := 18) hx hb h3 dJ9_floorMod_7cf53_7 (by decide) (fun hc => ?_) (fun hc => ?_)
  · have hF := zi_t hF hc
    exact J18 v2 hF _ _ _ hH (lv_sub hl [0] rfl)
  · have hF := zi_f hF hc
    refine lv_iload_n hx hb dJ9_floorMod_7cf53_10 rfl (lv_at hl 0 rfl) ?_
    obtain ⟨h4, hF⟩ := zg_e hF
    refine z_if_eq (tgt := 18) hx hb h4 dJ9_floorMod_7cf53_11 (by decide) (fun hc => ?_) (fun hc => ?_)
    · have hF := zi_t hF hc
      exact J18 v2 hF _ _ _ hH (lv_sub hl [0] rfl)
    · have hF := zi_f hF hc
      refine lv_iload_n hx hb dJ9_floorMod_7cf53_14 rfl (lv_at hl 0 rfl) ?_
      refine lv_iload_n hx hb dJ9_floorMod_7cf53_15 rfl (lv_at hl 2 rfl) ?_
      refine z_iadd hx hb dJ9_floorMod_7cf53_16 ?_
      exact z_iretP hX hr hlocks hH hF rfl dJ9_floorMod_7cf53_17
theorem flX1_add_9 : zF RX1 wsX1_add 9 1 0 := ⟨_, TX1, _, rfl, by decide +kernel, by decide +kernel, by decide, rfl⟩
theorem flX1_add_21 : zF RX1 wsX1_add 21 1 1 := ⟨_, TX1, _, rfl, by decide +kernel, by decide +kernel, by decide, rfl⟩
theorem fpX1_add_21 : zFp RX1 wsX1_add 21 1 1 .int := ⟨_, TX1, _, tyX1, rfl, by decide +kernel, by decide +kernel, by decide, rfl, tyX1_ok, nmX1, rfl, by decide +kernel⟩
set_option maxHeartbeats 4000000 in
set_option maxRecDepth 100000 in
theorem ctX1_add (l : Launch) (D : va_G) (cs : Nat → ClassId) (α : Nat → Nat) (N : Nat) (M : zM) (a1 : Int) (M' : zM) (hF : fX1_add N a1 M = some M') : Met l yX1_add wsX1_add ({ frames := 1, cells := 0, slots := 0, locals := 22 }) (zPre D cs LLeav α M [.ref (α 0), .int (nZ a1)]) (zQv D cs LLeav α M') 0 0 (zA LLeav.length α) := by
  refine z_met (cc := cX1_add) (maxL := 2) (ret := none) (by decide +kernel) rfl RX1 rfl (Nat.le_of_ble_eq_true rfl) ?_
  intro p e s m below meth c ls hX hr hlocks hH hl
  have hx := hX.1.1
  have hb := hX.1.2.1
  have hts := hX.1.2.2.2.2
  have hl : lv_has ls 2 [(0, .ref (α 0)), (1, .int (nZ a1))] := hl
  unfold fX1_add at hF
  refine lv_aload_n hx hb dX1_add_0 rfl (lv_at hl 0 rfl) ?_
  refine z_getr hX hH 0 0 1 rfl rfl flX1_add_9 dX1_add_1 ?_
  refine lv_aload_n hx hb dX1_add_4 rfl (lv_at hl 0 rfl) ?_
  refine z_geti hX hH 0 1 rfl rfl flX1_add_21 dX1_add_5 ?_
  refine z_sipush (v := 400) hx hb dX1_add_8 (by decide +kernel) ?_
  obtain ⟨r1, c2, hF⟩ := zc_e hF
  refine z_callSi (As := [.int (nZ (M 0 1)), .int (nZ (400:Int))]) (is := []) (Ll := []) hX hH rfl (ctJ9_floorMod_7cf53 l D cs (zsb [] α) N (zpk [] M) (M 0 1) (400:Int) r1 c2) (va_cwS 2 hts gX1_add_J9_floorMod_7cf53 rfl rfl rfl (by decide +kernel) ⟨Nat.le_of_ble_eq_true rfl, Nat.le_of_ble_eq_true rfl⟩) rfl hl.1 (Nat.le_of_ble_eq_true rfl) rfl dX1_add_11 ⟨Nat.zero_le _, Nat.zero_le _⟩ (fun H locs hH => ?_)
  have hH : zH D cs LLeav α M (zA LLeav.length α) s H locs := hH
  refine lv_iload_n hx hb dX1_add_14 rfl (lv_at hl 1 rfl) ?_
  obtain ⟨h3, hF⟩ := zg_e hF
  obtain ⟨M4, eM4, hF⟩ := zl_e hF
  refine z_iast hX hH 1 400 eM4 rfl h3 (by decide) dX1_add_15 (fun H locs hH => ?_)
  refine lv_aload_n hx hb dX1_add_16 rfl (lv_at hl 0 rfl) ?_
  refine lv_dup hx hb dX1_add_17 rfl ?_
  refine z_geti hX hH 0 1 rfl rfl flX1_add_21 dX1_add_18 ?_
  refine z_iconst hx hb dX1_add_21 ?_
  refine z_iadd hx hb dX1_add_22 ?_
  obtain ⟨M5, eM5, hF⟩ := zl_e hF
  refine z_put hX hH 0 1 eM5 rfl rfl fpX1_add_21 rfl rfl dX1_add_23 (fun H locs hH => ?_)
  exact z_vret hX hr hlocks hH hF dX1_add_26
theorem flX1_at_9 : zF RX1 wsX1_at 9 1 0 := ⟨_, TX1, _, rfl, by decide +kernel, by decide +kernel, by decide, rfl⟩
set_option maxHeartbeats 4000000 in
set_option maxRecDepth 100000 in
theorem ctX1_at (l : Launch) (D : va_G) (cs : Nat → ClassId) (α : Nat → Nat) (N : Nat) (M : zM) (a1 : Int) (r : Int) (M' : zM) (hF : fX1_at N a1 M = some (r, M')) : Met l yX1_at wsX1_at ({ frames := 1, cells := 0, slots := 0, locals := 22 }) (zPre D cs LLeav α M [.ref (α 0), .int (nZ a1)]) (zQi D cs LLeav α r M') 0 0 (zA LLeav.length α) := by
  refine z_met (cc := cX1_at) (maxL := 2) (ret := (some .int)) (by decide +kernel) rfl RX1 rfl (Nat.le_of_ble_eq_true rfl) ?_
  intro p e s m below meth c ls hX hr hlocks hH hl
  have hx := hX.1.1
  have hb := hX.1.2.1
  have hts := hX.1.2.2.2.2
  have hl : lv_has ls 2 [(0, .ref (α 0)), (1, .int (nZ a1))] := hl
  unfold fX1_at at hF
  refine lv_aload_n hx hb dX1_at_0 rfl (lv_at hl 0 rfl) ?_
  refine z_getr hX hH 0 0 1 rfl rfl flX1_at_9 dX1_at_1 ?_
  refine lv_iload_n hx hb dX1_at_4 rfl (lv_at hl 1 rfl) ?_
  refine z_sipush (v := 400) hx hb dX1_at_5 (by decide +kernel) ?_
  obtain ⟨r1, c2, hF⟩ := zc_e hF
  refine z_callSi (As := [.int (nZ a1), .int (nZ (400:Int))]) (is := []) (Ll := []) hX hH rfl (ctJ9_floorMod_7cf53 l D cs (zsb [] α) N (zpk [] M) a1 (400:Int) r1 c2) (va_cwS 2 hts gX1_at_J9_floorMod_7cf53 rfl rfl rfl (by decide +kernel) ⟨Nat.le_of_ble_eq_true rfl, Nat.le_of_ble_eq_true rfl⟩) rfl hl.1 (Nat.le_of_ble_eq_true rfl) rfl dX1_at_8 ⟨Nat.zero_le _, Nat.zero_le _⟩ (fun H locs hH => ?_)
  have hH : zH D cs LLeav α M (zA LLeav.length α) s H locs := hH
  obtain ⟨h3, hF⟩ := zg_e hF
  refine z_iald hX hH 1 400 rfl h3 (by decide) dX1_at_11 ?_
  exact z_iret hX hr hlocks hH hF rfl dX1_at_12
theorem flX2_copyFrom_9 : zF RX2 wsX2_copyFrom 9 2 0 := ⟨_, TX2, _, rfl, by decide +kernel, by decide +kernel, by decide, rfl⟩
theorem flX2_copyFrom_15 : zF RX2 wsX2_copyFrom 15 2 1 := ⟨_, TX2, _, rfl, by decide +kernel, by decide +kernel, by decide, rfl⟩
theorem flX2_copyFrom_18 : zF RX2 wsX2_copyFrom 18 2 2 := ⟨_, TX2, _, rfl, by decide +kernel, by decide +kernel, by decide, rfl⟩
theorem flX2_copyFrom_21 : zF RX2 wsX2_copyFrom 21 2 3 := ⟨_, TX2, _, rfl, by decide +kernel, by decide +kernel, by decide, rfl⟩
set_option maxHeartbeats 4000000 in
set_option maxRecDepth 100000 in
theorem ctX2_copyFrom (l : Launch) (D : va_G) (cs : Nat → ClassId) (α : Nat → Nat) (N : Nat) (M : zM) (M' : zM) (hF : fX2_copyFrom N M = some M') : Met l yX2_copyFrom wsX2_copyFrom ({ frames := 1, cells := 0, slots := 0, locals := 40 }) (zPre D cs LQ2 α M [.ref (α 0), .ref (α 5)]) (zQv D cs LQ2 α M') 0 0 (zA LQ2.length α) := by
  refine z_met (cc := cX2_copyFrom) (maxL := 2) (ret := none) (by decide +kernel) rfl RX2 rfl (Nat.le_of_ble_eq_true rfl) ?_
  intro p e s m below meth c ls hX hr hlocks hH hl
  have hx := hX.1.1
  have hb := hX.1.2.1
  have hts := hX.1.2.2.2.2
  have hl : lv_has ls 2 [(0, .ref (α 0)), (1, .ref (α 5))] := hl
  unfold fX2_copyFrom at hF
  refine lv_aload_n hx hb dX2_copyFrom_0 rfl (lv_at hl 1 rfl) ?_
  refine z_getr hX hH 5 0 6 rfl rfl flX2_copyFrom_9 dX2_copyFrom_1 ?_
  refine z_iconst hx hb dX2_copyFrom_4 ?_
  refine lv_aload_n hx hb dX2_copyFrom_5 rfl (lv_at hl 0 rfl) ?_
  refine z_getr hX hH 0 0 1 rfl rfl flX2_copyFrom_9 dX2_copyFrom_6 ?_
  refine z_iconst hx hb dX2_copyFrom_9 ?_
  refine z_iconst hx hb dX2_copyFrom_10 ?_
  obtain ⟨M1, eM1, hF⟩ := zl_e hF
  refine z_copyi hX hH hl.1 6 1 eM1 rfl rfl (hts (.methodLink RX2 24 arraycopyName) (by decide +kernel)) (hts (.native arraycopyName) (by decide +kernel)) (hts (.static arraycopyName) (by decide +kernel)) (hts (.initialized "java/lang/System") (by decide +kernel)) (by decide) (by decide) (by decide) (Nat.le_of_ble_eq_true rfl) (Nat.le_of_ble_eq_true rfl) dX2_copyFrom_11 (fun H locs hH => ?_)
  refine lv_aload_n hx hb dX2_copyFrom_14 rfl (lv_at hl 1 rfl) ?_
  refine z_getr hX hH 5 1 7 rfl rfl flX2_copyFrom_15 dX2_copyFrom_15 ?_
  refine z_iconst hx hb dX2_copyFrom_18 ?_
  refine lv_aload_n hx hb dX2_copyFrom_19 rfl (lv_at hl 0 rfl) ?_
  refine z_getr hX hH 0 1 2 rfl rfl flX2_copyFrom_15 dX2_copyFrom_20 ?_
  refine z_iconst hx hb dX2_copyFrom_23 ?_
  refine z_iconst hx hb dX2_copyFrom_24 ?_
  obtain ⟨M2, eM2, hF⟩ := zl_e hF
  refine z_copyi hX hH hl.1 7 2 eM2 rfl rfl (hts (.methodLink RX2 24 arraycopyName) (by decide +kernel)) (hts (.native arraycopyName) (by decide +kernel)) (hts (.static arraycopyName) (by decide +kernel)) (hts (.initialized "java/lang/System") (by decide +kernel)) (by decide) (by decide) (by decide) (Nat.le_of_ble_eq_true rfl) (Nat.le_of_ble_eq_true rfl) dX2_copyFrom_25 (fun H locs hH => ?_)
  refine lv_aload_n hx hb dX2_copyFrom_28 rfl (lv_at hl 1 rfl) ?_
  refine z_getr hX hH 5 2 8 rfl rfl flX2_copyFrom_18 dX2_copyFrom_29 ?_
  refine z_iconst hx hb dX2_copyFrom_32 ?_
  refine lv_aload_n hx hb dX2_copyFrom_33 rfl (lv_at hl 0 rfl) ?_
  refine z_getr hX hH 0 2 3 rfl rfl flX2_copyFrom_18 dX2_copyFrom_34 ?_
  refine z_iconst hx hb dX2_copyFrom_37 ?_
  refine z_sipush (v := 405) hx hb dX2_copyFrom_38 (by decide +kernel) ?_
  obtain ⟨M3, eM3, hF⟩ := zl_e hF
  refine z_copyi hX hH hl.1 8 3 eM3 rfl rfl (hts (.methodLink RX2 24 arraycopyName) (by decide +kernel)) (hts (.native arraycopyName) (by decide +kernel)) (hts (.static arraycopyName) (by decide +kernel)) (hts (.initialized "java/lang/System") (by decide +kernel)) (by decide) (by decide) (by decide) (Nat.le_of_ble_eq_true rfl) (Nat.le_of_ble_eq_true rfl) dX2_copyFrom_41 (fun H locs hH => ?_)
  refine lv_aload_n hx hb dX2_copyFrom_44 rfl (lv_at hl 1 rfl) ?_
  refine z_getr hX hH 5 3 9 rfl rfl flX2_copyFrom_21 dX2_copyFrom_45 ?_
  refine z_iconst hx hb dX2_copyFrom_48 ?_
  refine lv_aload_n hx hb dX2_copyFrom_49 rfl (lv_at hl 0 rfl) ?_
  refine z_getr hX hH 0 3 4 rfl rfl flX2_copyFrom_21 dX2_copyFrom_50 ?_
  refine z_iconst hx hb dX2_copyFrom_53 ?_
  refine z_sipush (v := 405) hx hb dX2_copyFrom_54 (by decide +kernel) ?_
  obtain ⟨M4, eM4, hF⟩ := zl_e hF
  refine z_copyi hX hH hl.1 9 4 eM4 rfl rfl (hts (.methodLink RX2 24 arraycopyName) (by decide +kernel)) (hts (.native arraycopyName) (by decide +kernel)) (hts (.static arraycopyName) (by decide +kernel)) (hts (.initialized "java/lang/System") (by decide +kernel)) (by decide) (by decide) (by decide) (Nat.le_of_ble_eq_true rfl) (Nat.le_of_ble_eq_true rfl) dX2_copyFrom_57 (fun H locs hH => ?_)
  exact z_vret hX hr hlocks hH hF dX2_copyFrom_60
theorem flX2_add_21 : zF RX2 wsX2_add 21 2 3 := ⟨_, TX2, _, rfl, by decide +kernel, by decide +kernel, by decide, rfl⟩
theorem flX2_add_18 : zF RX2 wsX2_add 18 2 2 := ⟨_, TX2, _, rfl, by decide +kernel, by decide +kernel, by decide, rfl⟩
theorem flX2_add_9 : zF RX2 wsX2_add 9 2 0 := ⟨_, TX2, _, rfl, by decide +kernel, by decide +kernel, by decide, rfl⟩
theorem flX2_add_15 : zF RX2 wsX2_add 15 2 1 := ⟨_, TX2, _, rfl, by decide +kernel, by decide +kernel, by decide, rfl⟩
set_option maxHeartbeats 4000000 in
set_option maxRecDepth 100000 in
theorem ctX2_add (l : Launch) (D : va_G) (cs : Nat → ClassId) (α : Nat → Nat) (N : Nat) (M : zM) (a1 : Int) (a2 : Int) (a3 : Int) (M' : zM) (hF : fX2_add N a1 a2 a3 M = some M') : Met l yX2_add wsX2_add ({ frames := 0, cells := 0, slots := 0, locals := 0 }) (zPre D cs LQ α M [.ref (α 0), .int (nZ a1), .int (nZ a2), .int (nZ a3)]) (zQv D cs LQ α M') 0 0 (zA LQ.length α) := by
  refine z_met (cc := cX2_add) (maxL := 6) (ret := none) (by decide +kernel) rfl RX2 rfl (Nat.le_of_ble_eq_true rfl) ?_
  intro p e s m below meth c ls hX hr hlocks hH hl
  have hx := hX.1.1
  have hb := hX.1.2.1
  have hts := hX.1.2.2.2.2
  have hl : lv_has ls 6 [(0, .ref (α 0)), (1, .int (nZ a1)), (2, .int (nZ a2)), (3, .int (nZ a3))] := hl
  unfold fX2_add at hF
  refine z_sipush (v := 400) hx hb dX2_add_0 (by decide +kernel) ?_
  refine lv_iload_n hx hb dX2_add_3 rfl (lv_at hl 1 rfl) ?_
  refine z_iadd hx hb dX2_add_4 ?_
  obtain ⟨v1, ev1, hF⟩ := zl_e hF
  refine z_istore ev1 (lv' := [(4, .int (nZ v1)), (0, .ref (α 0)), (1, .int (nZ a1)), (2, .int (nZ a2)), (3, .int (nZ a3))]) hx hb dX2_add_5 hl (by decide) rfl (fun ls hl => ?_)
  refine lv_aload_n hx hb dX2_add_7 rfl (lv_at hl 1 rfl) ?_
  refine z_getr hX hH 0 3 4 rfl rfl flX2_add_21 dX2_add_8 ?_
  refine lv_iload hx hb dX2_add_11 (lv_at hl 0 rfl) ?_
  obtain ⟨h2, hF⟩ := zg_e hF
  refine z_iald hX hH 4 405 rfl h2 (by decide) dX2_add_13 ?_
  obtain ⟨v3, ev3, hF⟩ := zl_e hF
  refine z_istore ev3 (lv' := [(5, .int (nZ v3)), (4, .int (nZ v1)), (0, .ref (α 0)), (1, .int (nZ a1)), (2, .int (nZ a2)), (3, .int (nZ a3))]) hx hb dX2_add_14 hl (by decide) rfl (fun ls hl => ?_)
  refine lv_aload_n hx hb dX2_add_16 rfl (lv_at hl 2 rfl) ?_
  refine z_getr hX hH 0 2 3 rfl rfl flX2_add_18 dX2_add_17 ?_
  refine lv_iload hx hb dX2_add_20 (lv_at hl 0 rfl) ?_
  refine lv_iload_n hx hb dX2_add_22 rfl (lv_at hl 4 rfl) ?_
  obtain ⟨h4, hF⟩ := zg_e hF
  obtain ⟨M5, eM5, hF⟩ := zl_e hF
  refine z_iast hX hH 3 405 eM5 rfl h4 (by decide) dX2_add_23 (fun H locs hH => ?_)
  refine lv_aload_n hx hb dX2_add_24 rfl (lv_at hl 2 rfl) ?_
  refine z_getr hX hH 0 3 4 rfl rfl flX2_add_21 dX2_add_25 ?_
  refine lv_iload_n hx hb dX2_add_28 rfl (lv_at hl 4 rfl) ?_
  refine lv_iload hx hb dX2_add_29 (lv_at hl 0 rfl) ?_
  obtain ⟨h6, hF⟩ := zg_e hF
  obtain ⟨M7, eM7, hF⟩ := zl_e hF
  refine z_iast hX hH 4 405 eM7 rfl h6 (by decide) dX2_add_31 (fun H locs hH => ?_)
  refine lv_aload_n hx hb dX2_add_32 rfl (lv_at hl 2 rfl) ?_
  refine z_getr hX hH 0 2 3 rfl rfl flX2_add_18 dX2_add_33 ?_
  refine lv_iload_n hx hb dX2_add_36 rfl (lv_at hl 4 rfl) ?_
  refine lv_iload hx hb dX2_add_37 (lv_at hl 1 rfl) ?_
  obtain ⟨M8, eM8, hF⟩ := zl_e hF
  refine z_iast hX hH 3 405 eM8 rfl h6 (by decide) dX2_add_39 (fun H locs hH => ?_)
  refine lv_aload_n hx hb dX2_add_40 rfl (lv_at hl 2 rfl) ?_
  refine z_getr hX hH 0 3 4 rfl rfl flX2_add_21 dX2_add_41 ?_
  refine lv_iload hx hb dX2_add_44 (lv_at hl 1 rfl) ?_
  refine lv_iload_n hx hb dX2_add_46 rfl (lv_at hl 4 rfl) ?_
  obtain ⟨M9, eM9, hF⟩ := zl_e hF
  refine z_iast hX hH 4 405 eM9 rfl h2 (by decide) dX2_add_47 (fun H locs hH => ?_)
  refine lv_aload_n hx hb dX2_add_48 rfl (lv_at hl 2 rfl) ?_
  refine z_getr hX hH 0 0 1 rfl rfl flX2_add_9 dX2_add_49 ?_
  refine lv_iload_n hx hb dX2_add_52 rfl (lv_at hl 3 rfl) ?_
  refine lv_dup2_11 hx hb dX2_add_53 rfl rfl ?_
  obtain ⟨h10, hF⟩ := zg_e hF
  refine z_iald hX hH 1 5 rfl h10 (by decide) dX2_add_54 ?_
  refine z_iconst hx hb dX2_add_55 ?_
  refine z_iadd hx hb dX2_add_56 ?_
  obtain ⟨M11, eM11, hF⟩ := zl_e hF
  refine z_iast hX hH 1 5 eM11 rfl h10 (by decide) dX2_add_57 (fun H locs hH => ?_)
  refine lv_aload_n hx hb dX2_add_58 rfl (lv_at hl 2 rfl) ?_
  refine z_getr hX hH 0 1 2 rfl rfl flX2_add_15 dX2_add_59 ?_
  refine lv_iload_n hx hb dX2_add_62 rfl (lv_at hl 3 rfl) ?_
  refine lv_dup2_11 hx hb dX2_add_63 rfl rfl ?_
  refine z_iald hX hH 2 5 rfl h10 (by decide) dX2_add_64 ?_
  refine lv_iload_n hx hb dX2_add_65 rfl (lv_at hl 5 rfl) ?_
  refine z_iadd hx hb dX2_add_66 ?_
  obtain ⟨M12, eM12, hF⟩ := zl_e hF
  refine z_iast hX hH 2 5 eM12 rfl h10 (by decide) dX2_add_67 (fun H locs hH => ?_)
  exact z_vret hX hr hlocks hH hF dX2_add_68
theorem flX2_remove_18 : zF RX2 wsX2_remove 18 2 2 := ⟨_, TX2, _, rfl, by decide +kernel, by decide +kernel, by decide, rfl⟩
theorem flX2_remove_21 : zF RX2 wsX2_remove 21 2 3 := ⟨_, TX2, _, rfl, by decide +kernel, by decide +kernel, by decide, rfl⟩
theorem flX2_remove_9 : zF RX2 wsX2_remove 9 2 0 := ⟨_, TX2, _, rfl, by decide +kernel, by decide +kernel, by decide, rfl⟩
theorem flX2_remove_15 : zF RX2 wsX2_remove 15 2 1 := ⟨_, TX2, _, rfl, by decide +kernel, by decide +kernel, by decide, rfl⟩
set_option maxHeartbeats 4000000 in
set_option maxRecDepth 100000 in
theorem ctX2_remove (l : Launch) (D : va_G) (cs : Nat → ClassId) (α : Nat → Nat) (N : Nat) (M : zM) (a1 : Int) (a2 : Int) (a3 : Int) (M' : zM) (hF : fX2_remove N a1 a2 a3 M = some M') : Met l yX2_remove wsX2_remove ({ frames := 0, cells := 0, slots := 0, locals := 0 }) (zPre D cs LQ α M [.ref (α 0), .int (nZ a1), .int (nZ a2), .int (nZ a3)]) (zQv D cs LQ α M') 0 0 (zA LQ.length α) := by
  refine z_met (cc := cX2_remove) (maxL := 4) (ret := none) (by decide +kernel) rfl RX2 rfl (Nat.le_of_ble_eq_true rfl) ?_
  intro p e s m below meth c ls hX hr hlocks hH hl
  have hx := hX.1.1
  have hb := hX.1.2.1
  have hts := hX.1.2.2.2.2
  have hl : lv_has ls 4 [(0, .ref (α 0)), (1, .int (nZ a1)), (2, .int (nZ a2)), (3, .int (nZ a3))] := hl
  unfold fX2_remove at hF
  refine lv_aload_n hx hb dX2_remove_0 rfl (lv_at hl 0 rfl) ?_
  refine z_getr hX hH 0 2 3 rfl rfl flX2_remove_18 dX2_remove_1 ?_
  refine lv_aload_n hx hb dX2_remove_4 rfl (lv_at hl 0 rfl) ?_
  refine z_getr hX hH 0 3 4 rfl rfl flX2_remove_21 dX2_remove_5 ?_
  refine lv_iload_n hx hb dX2_remove_8 rfl (lv_at hl 2 rfl) ?_
  obtain ⟨h1, hF⟩ := zg_e hF
  refine z_iald hX hH 4 405 rfl h1 (by decide) dX2_remove_9 ?_
  refine lv_aload_n hx hb dX2_remove_10 rfl (lv_at hl 0 rfl) ?_
  refine z_getr hX hH 0 2 3 rfl rfl flX2_remove_18 dX2_remove_11 ?_
  refine lv_iload_n hx hb dX2_remove_14 rfl (lv_at hl 2 rfl) ?_
  refine z_iald hX hH 3 405 rfl h1 (by decide) dX2_remove_15 ?_
  obtain ⟨h2, hF⟩ := zg_e hF
  obtain ⟨M3, eM3, hF⟩ := zl_e hF
  refine z_iast hX hH 3 405 eM3 rfl h2 (by decide) dX2_remove_16 (fun H locs hH => ?_)
  refine lv_aload_n hx hb dX2_remove_17 rfl (lv_at hl 0 rfl) ?_
  refine z_getr hX hH 0 3 4 rfl rfl flX2_remove_21 dX2_remove_18 ?_
  refine lv_aload_n hx hb dX2_remove_21 rfl (lv_at hl 0 rfl) ?_
  refine z_getr hX hH 0 2 3 rfl rfl flX2_remove_18 dX2_remove_22 ?_
  refine lv_iload_n hx hb dX2_remove_25 rfl (lv_at hl 2 rfl) ?_
  refine z_iald hX hH 3 405 rfl h1 (by decide) dX2_remove_26 ?_
  refine lv_aload_n hx hb dX2_remove_27 rfl (lv_at hl 0 rfl) ?_
  refine z_getr hX hH 0 3 4 rfl rfl flX2_remove_21 dX2_remove_28 ?_
  refine lv_iload_n hx hb dX2_remove_31 rfl (lv_at hl 2 rfl) ?_
  refine z_iald hX hH 4 405 rfl h1 (by decide) dX2_remove_32 ?_
  obtain ⟨h4, hF⟩ := zg_e hF
  obtain ⟨M5, eM5, hF⟩ := zl_e hF
  refine z_iast hX hH 4 405 eM5 rfl h4 (by decide) dX2_remove_33 (fun H locs hH => ?_)
  refine lv_aload_n hx hb dX2_remove_34 rfl (lv_at hl 0 rfl) ?_
  refine z_getr hX hH 0 0 1 rfl rfl flX2_remove_9 dX2_remove_35 ?_
  refine lv_iload_n hx hb dX2_remove_38 rfl (lv_at hl 1 rfl) ?_
  refine lv_dup2_11 hx hb dX2_remove_39 rfl rfl ?_
  obtain ⟨h6, hF⟩ := zg_e hF
  refine z_iald hX hH 1 5 rfl h6 (by decide) dX2_remove_40 ?_
  refine z_iconst hx hb dX2_remove_41 ?_
  refine z_isub hx hb dX2_remove_42 ?_
  obtain ⟨M7, eM7, hF⟩ := zl_e hF
  refine z_iast hX hH 1 5 eM7 rfl h6 (by decide) dX2_remove_43 (fun H locs hH => ?_)
  refine lv_aload_n hx hb dX2_remove_44 rfl (lv_at hl 0 rfl) ?_
  refine z_getr hX hH 0 1 2 rfl rfl flX2_remove_15 dX2_remove_45 ?_
  refine lv_iload_n hx hb dX2_remove_48 rfl (lv_at hl 1 rfl) ?_
  refine lv_dup2_11 hx hb dX2_remove_49 rfl rfl ?_
  refine z_iald hX hH 2 5 rfl h6 (by decide) dX2_remove_50 ?_
  refine lv_iload_n hx hb dX2_remove_51 rfl (lv_at hl 3 rfl) ?_
  refine z_isub hx hb dX2_remove_52 ?_
  obtain ⟨M8, eM8, hF⟩ := zl_e hF
  refine z_iast hX hH 2 5 eM8 rfl h6 (by decide) dX2_remove_53 (fun H locs hH => ?_)
  exact z_vret hX hr hlocks hH hF dX2_remove_54
theorem flX2_oldest_18 : zF RX2 wsX2_oldest 18 2 2 := ⟨_, TX2, _, rfl, by decide +kernel, by decide +kernel, by decide, rfl⟩
set_option maxHeartbeats 4000000 in
set_option maxRecDepth 100000 in
theorem ctX2_oldest (l : Launch) (D : va_G) (cs : Nat → ClassId) (α : Nat → Nat) (N : Nat) (M : zM) (a1 : Int) (r : Int) (M' : zM) (hF : fX2_oldest N a1 M = some (r, M')) : Met l yX2_oldest wsX2_oldest ({ frames := 0, cells := 0, slots := 0, locals := 0 }) (zPre D cs LQ α M [.ref (α 0), .int (nZ a1)]) (zQi D cs LQ α r M') 0 0 (zA LQ.length α) := by
  refine z_met (cc := cX2_oldest) (maxL := 2) (ret := (some .int)) (by decide +kernel) rfl RX2 rfl (Nat.le_of_ble_eq_true rfl) ?_
  intro p e s m below meth c ls hX hr hlocks hH hl
  have hx := hX.1.1
  have hb := hX.1.2.1
  have hts := hX.1.2.2.2.2
  have hl : lv_has ls 2 [(0, .ref (α 0)), (1, .int (nZ a1))] := hl
  unfold fX2_oldest at hF
  refine lv_aload_n hx hb dX2_oldest_0 rfl (lv_at hl 0 rfl) ?_
  refine z_getr hX hH 0 2 3 rfl rfl flX2_oldest_18 dX2_oldest_1 ?_
  refine z_sipush (v := 400) hx hb dX2_oldest_4 (by decide +kernel) ?_
  refine lv_iload_n hx hb dX2_oldest_7 rfl (lv_at hl 1 rfl) ?_
  refine z_iadd hx hb dX2_oldest_8 ?_
  obtain ⟨h1, hF⟩ := zg_e hF
  refine z_iald hX hH 3 405 rfl h1 (by decide) dX2_oldest_9 ?_
  exact z_iret hX hr hlocks hH hF rfl dX2_oldest_10
theorem flX2_keyAt_9 : zF RX2 wsX2_keyAt 9 2 0 := ⟨_, TX2, _, rfl, by decide +kernel, by decide +kernel, by decide, rfl⟩
theorem flX2_keyAt_18 : zF RX2 wsX2_keyAt 18 2 2 := ⟨_, TX2, _, rfl, by decide +kernel, by decide +kernel, by decide, rfl⟩
set_option maxHeartbeats 4000000 in
set_option maxRecDepth 100000 in
theorem ctX2_keyAt (l : Launch) (D : va_G) (cs : Nat → ClassId) (α : Nat → Nat) (N : Nat) (M : zM) (a1 : Int) (a2 : Int) (r : Int) (M' : zM) (hF : fX2_keyAt N a1 a2 M = some (r, M')) : Met l yX2_keyAt wsX2_keyAt ({ frames := 1, cells := 0, slots := 0, locals := 21 }) (zPre D cs LQ α M [.ref (α 0), .int (nZ a1), .int (nZ a2)]) (zQi D cs LQ α r M') 0 0 (zA LQ.length α) := by
  refine z_met (cc := cX2_keyAt) (maxL := 5) (ret := (some .int)) (by decide +kernel) rfl RX2 rfl (Nat.le_of_ble_eq_true rfl) ?_
  intro p e s m below meth c ls hX hr hlocks hH hl
  have hx := hX.1.1
  have hb := hX.1.2.1
  have hts := hX.1.2.2.2.2
  have L9 : ∀ (n : Nat) (x1 : Int) (x2 : Int) (x3 : Int) (x4 : Int) (M0 : zM), fX2_keyAt_9 N n x1 x2 x3 x4 M0 = some (r, M') → zGo p l e (headSpec wsX2_keyAt ({ frames := 1, cells := 0, slots := 0, locals := 21 })).room s m ([.ref (α 0), .int (nZ a1), .int (nZ a2)] : List Value).toArray below meth c (MQ below (zQi D cs LQ α r M') ([.ref (α 0), .int (nZ a1), .int (nZ a2)] : List Value).toArray s 0 0 (zA LQ.length α)) D cs LQ α (zA LQ.length α) 5 9 [(0, .ref (α 0)), (1, .int (nZ x1)), (2, .int (nZ x2)), (3, .int (nZ x3)), (4, .int (nZ x4))] [] M0 := by
    intro  n
    induction n with
    | zero =>
      intro x1 x2 x3 x4 M0 hF
      have hF : (none : Option (Int × zM)) = some (r, M') := hF
      cases hF
    | succ n hk9 =>
      intro x1 x2 x3 x4 M0 hF H locs ls hH hl
      have hF : sX2_keyAt_9 N (fun x1 x2 x3 x4 M0 => fX2_keyAt_9 N n x1 x2 x3 x4 M0) x1 x2 x3 x4 M0 = some (r, M') := hF
      unfold sX2_keyAt_9 at hF
      refine lv_iload hx hb dX2_keyAt_9 (lv_at hl 4 rfl) ?_
      refine lv_aload_n hx hb dX2_keyAt_11 rfl (lv_at hl 0 rfl) ?_
      refine z_getr hX hH 0 0 1 rfl rfl flX2_keyAt_9 dX2_keyAt_12 ?_
      refine lv_iload_n hx hb dX2_keyAt_15 rfl (lv_at hl 1 rfl) ?_
      obtain ⟨h6, hF⟩ := zg_e hF
      refine z_iald hX hH 1 5 rfl h6 (by decide) dX2_keyAt_16 ?_
      obtain ⟨h7, hF⟩ := zg_e hF
      obtain ⟨h8, hF⟩ := zg_e hF
      refine z_icmp_ge (tgt := 41) hx hb h7 h8 dX2_keyAt_17 (by decide) (fun hc => ?_) (fun hc => ?_)
      · have hF := zi_t hF hc
        refine z_bipush (v := -5) hx hb dX2_keyAt_41 (by decide +kernel) ?_
        exact z_iret hX hr hlocks hH hF rfl dX2_keyAt_43
      · have hF := zi_f hF hc
        refine lv_iload hx hb dX2_keyAt_20 (lv_at hl 4 rfl) ?_
        refine lv_iload_n hx hb dX2_keyAt_22 rfl (lv_at hl 2 rfl) ?_
        obtain ⟨h9, hF⟩ := zg_e hF
        refine z_icmp_ne (tgt := 28) hx hb h7 h9 dX2_keyAt_23 (by decide) (fun hc => ?_) (fun hc => ?_)
        · have hF := zi_f hF hc
          refine lv_aload_n hx hb dX2_keyAt_28 rfl (lv_at hl 0 rfl) ?_
          refine z_getr hX hH 0 2 3 rfl rfl flX2_keyAt_18 dX2_keyAt_29 ?_
          refine lv_iload_n hx hb dX2_keyAt_32 rfl (lv_at hl 3 rfl) ?_
          obtain ⟨h10, hF⟩ := zg_e hF
          refine z_iald hX hH 3 405 rfl h10 (by decide) dX2_keyAt_33 ?_
          obtain ⟨v11, ev11, hF⟩ := zl_e hF
          refine z_istore_n ev11 (lv' := [(3, .int (nZ v11)), (0, .ref (α 0)), (1, .int (nZ x1)), (2, .int (nZ x2)), (4, .int (nZ x4))]) hx hb dX2_keyAt_34 rfl hl (by decide) rfl (fun ls hl => ?_)
          obtain ⟨v12, ev12, hF⟩ := zl_e hF
          refine z_iinc ev12 (lv' := [(4, .int (nZ v12)), (3, .int (nZ v11)), (0, .ref (α 0)), (1, .int (nZ x1)), (2, .int (nZ x2))]) hx hb dX2_keyAt_35 hl (k := 4) rfl (by decide) rfl (fun ls hl => ?_)
          refine lv_goto (tgt := 9) hx hb dX2_keyAt_38 (by decide) ?_
          exact hk9 x1 x2 v11 v12 M0 hF _ _ _ hH (lv_sub hl [2, 3, 4, 1, 0] rfl)
        · have hF := zi_t hF hc
          refine lv_iload_n hx hb dX2_keyAt_26 rfl (lv_at hl 3 rfl) ?_
          exact z_iret hX hr hlocks hH hF rfl dX2_keyAt_27
  have hl : lv_has ls 5 [(0, .ref (α 0)), (1, .int (nZ a1)), (2, .int (nZ a2))] := hl
  unfold fX2_keyAt at hF
  refine lv_aload_n hx hb dX2_keyAt_0 rfl (lv_at hl 0 rfl) ?_
  refine lv_iload_n hx hb dX2_keyAt_1 rfl (lv_at hl 1 rfl) ?_
  obtain ⟨r3, M2, c1, hF⟩ := zc2_e hF
  refine z_sameVi (As := [.int (nZ a1)]) hX hH 0 2 (ctX2_oldest l D cs α N M a1 r3 M2 c1) (cwV 1 hts gX2_keyAt_X2_oldest rfl rfl rfl (by decide +kernel) ⟨Nat.le_of_ble_eq_true rfl, Nat.le_of_ble_eq_true rfl⟩) rfl rfl rfl hl.1 (Nat.le_of_ble_eq_true rfl) rfl dX2_keyAt_2 ⟨Nat.zero_le _, Nat.zero_le _⟩ (fun H locs hH => ?_)
  obtain ⟨v4, ev4, hF⟩ := zl_e hF
  refine z_istore_n ev4 (lv' := [(3, .int (nZ v4)), (0, .ref (α 0)), (1, .int (nZ a1)), (2, .int (nZ a2))]) hx hb dX2_keyAt_5 rfl hl (by decide) rfl (fun ls hl => ?_)
  refine z_iconst hx hb dX2_keyAt_6 ?_
  obtain ⟨v5, ev5, hF⟩ := zl_e hF
  refine z_istore ev5 (lv' := [(4, .int (nZ v5)), (3, .int (nZ v4)), (0, .ref (α 0)), (1, .int (nZ a1)), (2, .int (nZ a2))]) hx hb dX2_keyAt_7 hl (by decide) rfl (fun ls hl => ?_)
  exact L9 N a1 a2 v4 v5 M2 hF _ _ _ hH (lv_sub hl [2, 3, 4, 1, 0] rfl)
theorem flX2_placeOf_9 : zF RX2 wsX2_placeOf 9 2 0 := ⟨_, TX2, _, rfl, by decide +kernel, by decide +kernel, by decide, rfl⟩
theorem flX2_placeOf_18 : zF RX2 wsX2_placeOf 18 2 2 := ⟨_, TX2, _, rfl, by decide +kernel, by decide +kernel, by decide, rfl⟩
set_option maxHeartbeats 4000000 in
set_option maxRecDepth 100000 in
theorem ctX2_placeOf (l : Launch) (D : va_G) (cs : Nat → ClassId) (α : Nat → Nat) (N : Nat) (M : zM) (a1 : Int) (a2 : Int) (r : Int) (M' : zM) (hF : fX2_placeOf N a1 a2 M = some (r, M')) : Met l yX2_placeOf wsX2_placeOf ({ frames := 1, cells := 0, slots := 0, locals := 21 }) (zPre D cs LQ α M [.ref (α 0), .int (nZ a1), .int (nZ a2)]) (zQi D cs LQ α r M') 0 0 (zA LQ.length α) := by
  refine z_met (cc := cX2_placeOf) (maxL := 5) (ret := (some .int)) (by decide +kernel) rfl RX2 rfl (Nat.le_of_ble_eq_true rfl) ?_
  intro p e s m below meth c ls hX hr hlocks hH hl
  have hx := hX.1.1
  have hb := hX.1.2.1
  have hts := hX.1.2.2.2.2
  have L9 : ∀ (n : Nat) (x1 : Int) (x2 : Int) (x3 : Int) (x4 : Int) (M0 : zM), fX2_placeOf_9 N n x1 x2 x3 x4 M0 = some (r, M') → zGo p l e (headSpec wsX2_placeOf ({ frames := 1, cells := 0, slots := 0, locals := 21 })).room s m ([.ref (α 0), .int (nZ a1), .int (nZ a2)] : List Value).toArray below meth c (MQ below (zQi D cs LQ α r M') ([.ref (α 0), .int (nZ a1), .int (nZ a2)] : List Value).toArray s 0 0 (zA LQ.length α)) D cs LQ α (zA LQ.length α) 5 9 [(0, .ref (α 0)), (1, .int (nZ x1)), (2, .int (nZ x2)), (3, .int (nZ x3)), (4, .int (nZ x4))] [] M0 := by
    intro  n
    induction n with
    | zero =>
      intro x1 x2 x3 x4 M0 hF
      have hF : (none : Option (Int × zM)) = some (r, M') := hF
      cases hF
    | succ n hk9 =>
      intro x1 x2 x3 x4 M0 hF H locs ls hH hl
      have hF : sX2_placeOf_9 N (fun x1 x2 x3 x4 M0 => fX2_placeOf_9 N n x1 x2 x3 x4 M0) x1 x2 x3 x4 M0 = some (r, M') := hF
      unfold sX2_placeOf_9 at hF
      refine lv_iload hx hb dX2_placeOf_9 (lv_at hl 4 rfl) ?_
      refine lv_aload_n hx hb dX2_placeOf_11 rfl (lv_at hl 0 rfl) ?_
      refine z_getr hX hH 0 0 1 rfl rfl flX2_placeOf_9 dX2_placeOf_12 ?_
      refine lv_iload_n hx hb dX2_placeOf_15 rfl (lv_at hl 1 rfl) ?_
      obtain ⟨h6, hF⟩ := zg_e hF
      refine z_iald hX hH 1 5 rfl h6 (by decide) dX2_placeOf_16 ?_
      obtain ⟨h7, hF⟩ := zg_e hF
      obtain ⟨h8, hF⟩ := zg_e hF
      refine z_icmp_ge (tgt := 41) hx hb h7 h8 dX2_placeOf_17 (by decide) (fun hc => ?_) (fun hc => ?_)
      · have hF := zi_t hF hc
        refine z_bipush (v := -5) hx hb dX2_placeOf_41 (by decide +kernel) ?_
        exact z_iret hX hr hlocks hH hF rfl dX2_placeOf_43
      · have hF := zi_f hF hc
        refine lv_iload_n hx hb dX2_placeOf_20 rfl (lv_at hl 3 rfl) ?_
        refine lv_iload_n hx hb dX2_placeOf_21 rfl (lv_at hl 2 rfl) ?_
        obtain ⟨h9, hF⟩ := zg_e hF
        obtain ⟨h10, hF⟩ := zg_e hF
        refine z_icmp_ne (tgt := 28) hx hb h9 h10 dX2_placeOf_22 (by decide) (fun hc => ?_) (fun hc => ?_)
        · have hF := zi_f hF hc
          refine lv_aload_n hx hb dX2_placeOf_28 rfl (lv_at hl 0 rfl) ?_
          refine z_getr hX hH 0 2 3 rfl rfl flX2_placeOf_18 dX2_placeOf_29 ?_
          refine lv_iload_n hx hb dX2_placeOf_32 rfl (lv_at hl 3 rfl) ?_
          obtain ⟨h11, hF⟩ := zg_e hF
          refine z_iald hX hH 3 405 rfl h11 (by decide) dX2_placeOf_33 ?_
          obtain ⟨v12, ev12, hF⟩ := zl_e hF
          refine z_istore_n ev12 (lv' := [(3, .int (nZ v12)), (0, .ref (α 0)), (1, .int (nZ x1)), (2, .int (nZ x2)), (4, .int (nZ x4))]) hx hb dX2_placeOf_34 rfl hl (by decide) rfl (fun ls hl => ?_)
          obtain ⟨v13, ev13, hF⟩ := zl_e hF
          refine z_iinc ev13 (lv' := [(4, .int (nZ v13)), (3, .int (nZ v12)), (0, .ref (α 0)), (1, .int (nZ x1)), (2, .int (nZ x2))]) hx hb dX2_placeOf_35 hl (k := 4) rfl (by decide) rfl (fun ls hl => ?_)
          refine lv_goto (tgt := 9) hx hb dX2_placeOf_38 (by decide) ?_
          exact hk9 x1 x2 v12 v13 M0 hF _ _ _ hH (lv_sub hl [2, 3, 4, 1, 0] rfl)
        · have hF := zi_t hF hc
          refine lv_iload hx hb dX2_placeOf_25 (lv_at hl 4 rfl) ?_
          exact z_iret hX hr hlocks hH hF rfl dX2_placeOf_27
  have hl : lv_has ls 5 [(0, .ref (α 0)), (1, .int (nZ a1)), (2, .int (nZ a2))] := hl
  unfold fX2_placeOf at hF
  refine lv_aload_n hx hb dX2_placeOf_0 rfl (lv_at hl 0 rfl) ?_
  refine lv_iload_n hx hb dX2_placeOf_1 rfl (lv_at hl 1 rfl) ?_
  obtain ⟨r3, M2, c1, hF⟩ := zc2_e hF
  refine z_sameVi (As := [.int (nZ a1)]) hX hH 0 2 (ctX2_oldest l D cs α N M a1 r3 M2 c1) (cwV 1 hts gX2_placeOf_X2_oldest rfl rfl rfl (by decide +kernel) ⟨Nat.le_of_ble_eq_true rfl, Nat.le_of_ble_eq_true rfl⟩) rfl rfl rfl hl.1 (Nat.le_of_ble_eq_true rfl) rfl dX2_placeOf_2 ⟨Nat.zero_le _, Nat.zero_le _⟩ (fun H locs hH => ?_)
  obtain ⟨v4, ev4, hF⟩ := zl_e hF
  refine z_istore_n ev4 (lv' := [(3, .int (nZ v4)), (0, .ref (α 0)), (1, .int (nZ a1)), (2, .int (nZ a2))]) hx hb dX2_placeOf_5 rfl hl (by decide) rfl (fun ls hl => ?_)
  refine z_iconst hx hb dX2_placeOf_6 ?_
  obtain ⟨v5, ev5, hF⟩ := zl_e hF
  refine z_istore ev5 (lv' := [(4, .int (nZ v5)), (3, .int (nZ v4)), (0, .ref (α 0)), (1, .int (nZ a1)), (2, .int (nZ a2))]) hx hb dX2_placeOf_7 hl (by decide) rfl (fun ls hl => ?_)
  exact L9 N a1 a2 v4 v5 M2 hF _ _ _ hH (lv_sub hl [2, 3, 4, 1, 0] rfl)
theorem em_LQp_is_0n5 : zemb LQp LQ is_0n5 = true := by decide +kernel
theorem flX2_oldestLoose_9 : zF RX2 wsX2_oldestLoose 9 2 0 := ⟨_, TX2, _, rfl, by decide +kernel, by decide +kernel, by decide, rfl⟩
theorem flX2_oldestLoose_18 : zF RX2 wsX2_oldestLoose 18 2 2 := ⟨_, TX2, _, rfl, by decide +kernel, by decide +kernel, by decide, rfl⟩
set_option maxHeartbeats 4000000 in
set_option maxRecDepth 100000 in
theorem ctX2_oldestLoose (l : Launch) (D : va_G) (cs : Nat → ClassId) (α : Nat → Nat) (N : Nat) (M : zM) (a1 : Int) (r : Int) (M' : zM) (hF : fX2_oldestLoose N a1 M = some (r, M')) : Met l yX2_oldestLoose wsX2_oldestLoose ({ frames := 1, cells := 0, slots := 0, locals := 21 }) (zPre D cs LQp α M [.ref (α 0), .int (nZ a1), .ref (α 5)]) (zQi D cs LQp α r M') 0 0 (zA LQp.length α) := by
  refine z_met (cc := cX2_oldestLoose) (maxL := 5) (ret := (some .int)) (by decide +kernel) rfl RX2 rfl (Nat.le_of_ble_eq_true rfl) ?_
  intro p e s m below meth c ls hX hr hlocks hH hl
  have hx := hX.1.1
  have hb := hX.1.2.1
  have hts := hX.1.2.2.2.2
  have L9 : ∀ (n : Nat) (x1 : Int) (x3 : Int) (x4 : Int) (M0 : zM), fX2_oldestLoose_9 N n x1 x3 x4 M0 = some (r, M') → zGo p l e (headSpec wsX2_oldestLoose ({ frames := 1, cells := 0, slots := 0, locals := 21 })).room s m ([.ref (α 0), .int (nZ a1), .ref (α 5)] : List Value).toArray below meth c (MQ below (zQi D cs LQp α r M') ([.ref (α 0), .int (nZ a1), .ref (α 5)] : List Value).toArray s 0 0 (zA LQp.length α)) D cs LQp α (zA LQp.length α) 5 9 [(0, .ref (α 0)), (1, .int (nZ x1)), (2, .ref (α 5)), (3, .int (nZ x3)), (4, .int (nZ x4))] [] M0 := by
    intro  n
    induction n with
    | zero =>
      intro x1 x3 x4 M0 hF
      have hF : (none : Option (Int × zM)) = some (r, M') := hF
      cases hF
    | succ n hk9 =>
      intro x1 x3 x4 M0 hF H locs ls hH hl
      have hF : sX2_oldestLoose_9 N (fun x1 x3 x4 M0 => fX2_oldestLoose_9 N n x1 x3 x4 M0) x1 x3 x4 M0 = some (r, M') := hF
      unfold sX2_oldestLoose_9 at hF
      refine lv_iload hx hb dX2_oldestLoose_9 (lv_at hl 4 rfl) ?_
      refine lv_aload_n hx hb dX2_oldestLoose_11 rfl (lv_at hl 0 rfl) ?_
      refine z_getr hX hH 0 0 1 rfl rfl flX2_oldestLoose_9 dX2_oldestLoose_12 ?_
      refine lv_iload_n hx hb dX2_oldestLoose_15 rfl (lv_at hl 1 rfl) ?_
      obtain ⟨h7, hF⟩ := zg_e hF
      refine z_iald hX hH 1 5 rfl h7 (by decide) dX2_oldestLoose_16 ?_
      obtain ⟨h8, hF⟩ := zg_e hF
      obtain ⟨h9, hF⟩ := zg_e hF
      refine z_icmp_ge (tgt := 41) hx hb h8 h9 dX2_oldestLoose_17 (by decide) (fun hc => ?_) (fun hc => ?_)
      · have hF := zi_t hF hc
        refine z_bipush (v := -5) hx hb dX2_oldestLoose_41 (by decide +kernel) ?_
        exact z_iret hX hr hlocks hH hF rfl dX2_oldestLoose_43
      · have hF := zi_f hF hc
        refine lv_aload_n hx hb dX2_oldestLoose_20 rfl (lv_at hl 2 rfl) ?_
        refine lv_iload_n hx hb dX2_oldestLoose_21 rfl (lv_at hl 3 rfl) ?_
        obtain ⟨h10, hF⟩ := zg_e hF
        refine z_iald hX hH 5 400 rfl h10 (by decide) dX2_oldestLoose_22 ?_
        obtain ⟨h11, hF⟩ := zg_e hF
        refine z_if_ne (tgt := 28) hx hb h11 dX2_oldestLoose_23 (by decide) (fun hc => ?_) (fun hc => ?_)
        · have hF := zi_f hF hc
          refine lv_aload_n hx hb dX2_oldestLoose_28 rfl (lv_at hl 0 rfl) ?_
          refine z_getr hX hH 0 2 3 rfl rfl flX2_oldestLoose_18 dX2_oldestLoose_29 ?_
          refine lv_iload_n hx hb dX2_oldestLoose_32 rfl (lv_at hl 3 rfl) ?_
          obtain ⟨h12, hF⟩ := zg_e hF
          refine z_iald hX hH 3 405 rfl h12 (by decide) dX2_oldestLoose_33 ?_
          obtain ⟨v13, ev13, hF⟩ := zl_e hF
          refine z_istore_n ev13 (lv' := [(3, .int (nZ v13)), (0, .ref (α 0)), (1, .int (nZ x1)), (2, .ref (α 5)), (4, .int (nZ x4))]) hx hb dX2_oldestLoose_34 rfl hl (by decide) rfl (fun ls hl => ?_)
          obtain ⟨v14, ev14, hF⟩ := zl_e hF
          refine z_iinc ev14 (lv' := [(4, .int (nZ v14)), (3, .int (nZ v13)), (0, .ref (α 0)), (1, .int (nZ x1)), (2, .ref (α 5))]) hx hb dX2_oldestLoose_35 hl (k := 4) rfl (by decide) rfl (fun ls hl => ?_)
          refine lv_goto (tgt := 9) hx hb dX2_oldestLoose_38 (by decide) ?_
          exact hk9 x1 v13 v14 M0 hF _ _ _ hH (lv_sub hl [2, 3, 4, 1, 0] rfl)
        · have hF := zi_t hF hc
          refine lv_iload_n hx hb dX2_oldestLoose_26 rfl (lv_at hl 3 rfl) ?_
          exact z_iret hX hr hlocks hH hF rfl dX2_oldestLoose_27
  have hl : lv_has ls 5 [(0, .ref (α 0)), (1, .int (nZ a1)), (2, .ref (α 5))] := hl
  unfold fX2_oldestLoose at hF
  refine lv_aload_n hx hb dX2_oldestLoose_0 rfl (lv_at hl 0 rfl) ?_
  refine lv_iload_n hx hb dX2_oldestLoose_1 rfl (lv_at hl 1 rfl) ?_
  obtain ⟨r3, M2, c1, hF⟩ := zc2_e hF
  obtain ⟨M4, eM4, hF⟩ := zl_e hF
  refine z_callVi (As := [.int (nZ a1)]) hX hH 0 2 em_LQp_is_0n5 (ctX2_oldest l D cs (zsb is_0n5 α) N (zpk is_0n5 M) a1 r3 M2 c1) (cwV 1 hts gX2_oldestLoose_X2_oldest rfl rfl rfl (by decide +kernel) ⟨Nat.le_of_ble_eq_true rfl, Nat.le_of_ble_eq_true rfl⟩) rfl rfl rfl hl.1 (Nat.le_of_ble_eq_true rfl) rfl dX2_oldestLoose_2 ⟨Nat.zero_le _, Nat.zero_le _⟩ (fun H locs hH => ?_)
  rw [← eM4] at hH
  obtain ⟨v5, ev5, hF⟩ := zl_e hF
  refine z_istore_n ev5 (lv' := [(3, .int (nZ v5)), (0, .ref (α 0)), (1, .int (nZ a1)), (2, .ref (α 5))]) hx hb dX2_oldestLoose_5 rfl hl (by decide) rfl (fun ls hl => ?_)
  refine z_iconst hx hb dX2_oldestLoose_6 ?_
  obtain ⟨v6, ev6, hF⟩ := zl_e hF
  refine z_istore ev6 (lv' := [(4, .int (nZ v6)), (3, .int (nZ v5)), (0, .ref (α 0)), (1, .int (nZ a1)), (2, .ref (α 5))]) hx hb dX2_oldestLoose_7 hl (by decide) rfl (fun ls hl => ?_)
  exact L9 N a1 v5 v6 M4 hF _ _ _ hH (lv_sub hl [2, 3, 4, 1, 0] rfl)
theorem fpX4_become_15 : zFp RX4 wsX4_become 15 4 1 .int := ⟨_, TX4, _, tyX4, rfl, by decide +kernel, by decide +kernel, by decide, rfl, tyX4_ok, nmX4, rfl, by decide +kernel⟩
theorem fpX4_become_19 : zFp RX4 wsX4_become 19 4 2 .int := ⟨_, TX4, _, tyX4, rfl, by decide +kernel, by decide +kernel, by decide, rfl, tyX4_ok, nmX4, rfl, by decide +kernel⟩
theorem flX4_become_9 : zF RX4 wsX4_become 9 4 0 := ⟨_, TX4, _, rfl, by decide +kernel, by decide +kernel, by decide, rfl⟩
set_option maxHeartbeats 4000000 in
set_option maxRecDepth 100000 in
theorem ctX4_become (l : Launch) (D : va_G) (cs : Nat → ClassId) (α : Nat → Nat) (N : Nat) (M : zM) (a1 : Int) (a2 : Int) (M' : zM) (hF : fX4_become N a1 a2 M = some M') : Met l yX4_become wsX4_become ({ frames := 0, cells := 0, slots := 0, locals := 0 }) (zPre D cs LTp α M [.ref (α 0), .int (nZ a1), .int (nZ a2)]) (zQv D cs LTp α M') 0 0 (zA LTp.length α) := by
  refine z_met (cc := cX4_become) (maxL := 4) (ret := none) (by decide +kernel) rfl RX4 rfl (Nat.le_of_ble_eq_true rfl) ?_
  intro p e s m below meth c ls hX hr hlocks hH hl
  have hx := hX.1.1
  have hb := hX.1.2.1
  have hts := hX.1.2.2.2.2
  have L2 : ∀ (n : Nat) (x1 : Int) (x2 : Int) (x3 : Int) (M0 : zM), fX4_become_2 N n x1 x2 x3 M0 = some M' → zGo p l e (headSpec wsX4_become ({ frames := 0, cells := 0, slots := 0, locals := 0 })).room s m ([.ref (α 0), .int (nZ a1), .int (nZ a2)] : List Value).toArray below meth c (MQ below (zQv D cs LTp α M') ([.ref (α 0), .int (nZ a1), .int (nZ a2)] : List Value).toArray s 0 0 (zA LTp.length α)) D cs LTp α (zA LTp.length α) 4 2 [(0, .ref (α 0)), (1, .int (nZ x1)), (2, .int (nZ x2)), (3, .int (nZ x3))] [] M0 := by
    intro  n
    induction n with
    | zero =>
      intro x1 x2 x3 M0 hF
      have hF : (none : Option zM) = some M' := hF
      cases hF
    | succ n hk2 =>
      intro x1 x2 x3 M0 hF H locs ls hH hl
      have hF : sX4_become_2 N (fun x1 x2 x3 M0 => fX4_become_2 N n x1 x2 x3 M0) x1 x2 x3 M0 = some M' := hF
      unfold sX4_become_2 at hF
      refine lv_iload_n hx hb dX4_become_2 rfl (lv_at hl 3 rfl) ?_
      refine z_bipush (v := 60) hx hb dX4_become_3 (by decide +kernel) ?_
      obtain ⟨h2, hF⟩ := zg_e hF
      refine z_icmp_ge (tgt := 21) hx hb h2 (by decide) dX4_become_5 (by decide) (fun hc => ?_) (fun hc => ?_)
      · have hF := zi_t hF hc
        refine lv_aload_n hx hb dX4_become_21 rfl (lv_at hl 0 rfl) ?_
        refine lv_iload_n hx hb dX4_become_22 rfl (lv_at hl 1 rfl) ?_
        obtain ⟨M3, eM3, hF⟩ := zl_e hF
        refine z_put hX hH 0 1 eM3 rfl rfl fpX4_become_15 rfl rfl dX4_become_23 (fun H locs hH => ?_)
        refine lv_aload_n hx hb dX4_become_26 rfl (lv_at hl 0 rfl) ?_
        refine lv_iload_n hx hb dX4_become_27 rfl (lv_at hl 2 rfl) ?_
        obtain ⟨M4, eM4, hF⟩ := zl_e hF
        refine z_put hX hH 0 2 eM4 rfl rfl fpX4_become_19 rfl rfl dX4_become_28 (fun H locs hH => ?_)
        exact z_vret hX hr hlocks hH hF dX4_become_31
      · have hF := zi_f hF hc
        refine lv_aload_n hx hb dX4_become_8 rfl (lv_at hl 0 rfl) ?_
        refine z_getr hX hH 0 0 1 rfl rfl flX4_become_9 dX4_become_9 ?_
        refine lv_iload_n hx hb dX4_become_12 rfl (lv_at hl 3 rfl) ?_
        refine z_lconst hx hb dX4_become_13 ?_
        obtain ⟨h5, hF⟩ := zg_e hF
        obtain ⟨M6, eM6, hF⟩ := zl_e hF
        refine z_last hX hH 1 60 eM6 rfl h5 (by decide) dX4_become_14 (fun H locs hH => ?_)
        obtain ⟨v7, ev7, hF⟩ := zl_e hF
        refine z_iinc ev7 (lv' := [(3, .int (nZ v7)), (0, .ref (α 0)), (1, .int (nZ x1)), (2, .int (nZ x2))]) hx hb dX4_become_15 hl (k := 3) rfl (by decide) rfl (fun ls hl => ?_)
        refine lv_goto (tgt := 2) hx hb dX4_become_18 (by decide) ?_
        exact hk2 x1 x2 v7 M6 hF _ _ _ hH (lv_sub hl [1, 2, 3, 0] rfl)
  have hl : lv_has ls 4 [(0, .ref (α 0)), (1, .int (nZ a1)), (2, .int (nZ a2))] := hl
  unfold fX4_become at hF
  refine z_iconst hx hb dX4_become_0 ?_
  obtain ⟨v1, ev1, hF⟩ := zl_e hF
  refine z_istore_n ev1 (lv' := [(3, .int (nZ v1)), (0, .ref (α 0)), (1, .int (nZ a1)), (2, .int (nZ a2))]) hx hb dX4_become_1 rfl hl (by decide) rfl (fun ls hl => ?_)
  exact L2 N a1 a2 v1 M hF _ _ _ hH (lv_sub hl [1, 2, 3, 0] rfl)
theorem flX4_asItem_15 : zF RX4 wsX4_asItem 15 4 1 := ⟨_, TX4, _, rfl, by decide +kernel, by decide +kernel, by decide, rfl⟩
set_option maxHeartbeats 4000000 in
set_option maxRecDepth 100000 in
theorem ctX4_asItem (l : Launch) (D : va_G) (cs : Nat → ClassId) (α : Nat → Nat) (N : Nat) (M : zM) (a1 : Int) (r : Int) (M' : zM) (hF : fX4_asItem N a1 M = some (r, M')) : Met l yX4_asItem wsX4_asItem ({ frames := 0, cells := 0, slots := 0, locals := 0 }) (zPre D cs LTp α M [.ref (α 0), .long (nY a1)]) (zQl D cs LTp α r M') 0 0 (zA LTp.length α) := by
  refine z_met (cc := cX4_asItem) (maxL := 3) (ret := (some .long)) (by decide +kernel) rfl RX4 rfl (Nat.le_of_ble_eq_true rfl) ?_
  intro p e s m below meth c ls hX hr hlocks hH hl
  have hx := hX.1.1
  have hb := hX.1.2.1
  have hts := hX.1.2.2.2.2
  have hl : lv_has ls 3 [(0, .ref (α 0)), (1, .long (nY a1))] := hl
  unfold fX4_asItem at hF
  refine lv_aload_n hx hb dX4_asItem_0 rfl (lv_at hl 0 rfl) ?_
  refine z_geti hX hH 0 1 rfl rfl flX4_asItem_15 dX4_asItem_1 ?_
  obtain ⟨h1, hF⟩ := zg_e hF
  by_cases hc : (M 0 1) < (0:Int) ∨ (3:Int) < (M 0 1)
  · have hF := zi_t hF hc
    refine z_tableOut (tgt := 52) hx hb h1 hc dX4_asItem_4 (by decide) ?_
    refine lv_lload_n hx hb dX4_asItem_52 rfl (lv_at hl 1 rfl) ?_
    refine z_lconst hx hb dX4_asItem_53 ?_
    obtain ⟨h2, hF⟩ := zg_e hF
    refine z_lcmp_eq (tgt := 62) hx hb h2 (by decide) dX4_asItem_54 dX4_asItem_55 (by decide) (fun hc => ?_) (fun hc => ?_)
    · have hF := zi_t hF hc
      refine z_lconst hx hb dX4_asItem_62 ?_
      exact z_lret hX hr hlocks hH hF dX4_asItem_63
    · have hF := zi_f hF hc
      refine z_lconst hx hb dX4_asItem_58 ?_
      refine lv_goto (tgt := 63) hx hb dX4_asItem_59 (by decide) ?_
      exact z_lret hX hr hlocks hH hF dX4_asItem_63
  have hF := zi_f hF hc
  by_cases hc : (M 0 1) = (0:Int)
  · have hF := zi_t hF hc
    refine z_tableIn (tgt := 36) (v := 0) hx hb hc (by decide) dX4_asItem_4 (by decide +kernel) (by decide +kernel) rfl (by decide) ?_
    refine lv_lload_n hx hb dX4_asItem_36 rfl (lv_at hl 1 rfl) ?_
    refine z_l2i hx hb dX4_asItem_37 ?_
    refine z_i2b hx hb dX4_asItem_38 ?_
    obtain ⟨h3, hF⟩ := zg_e hF
    refine z_i2l hx hb h3 dX4_asItem_39 ?_
    exact z_lret hX hr hlocks hH hF dX4_asItem_40
  have hF := zi_f hF hc
  by_cases hc : (M 0 1) = (1:Int)
  · have hF := zi_t hF hc
    refine z_tableIn (tgt := 41) (v := 1) hx hb hc (by decide) dX4_asItem_4 (by decide +kernel) (by decide +kernel) rfl (by decide) ?_
    refine lv_lload_n hx hb dX4_asItem_41 rfl (lv_at hl 1 rfl) ?_
    refine z_l2i hx hb dX4_asItem_42 ?_
    refine z_i2s hx hb dX4_asItem_43 ?_
    obtain ⟨h4, hF⟩ := zg_e hF
    refine z_i2l hx hb h4 dX4_asItem_44 ?_
    exact z_lret hX hr hlocks hH hF dX4_asItem_45
  have hF := zi_f hF hc
  by_cases hc : (M 0 1) = (2:Int)
  · have hF := zi_t hF hc
    refine z_tableIn (tgt := 46) (v := 2) hx hb hc (by decide) dX4_asItem_4 (by decide +kernel) (by decide +kernel) rfl (by decide) ?_
    refine lv_lload_n hx hb dX4_asItem_46 rfl (lv_at hl 1 rfl) ?_
    refine z_l2i hx hb dX4_asItem_47 ?_
    obtain ⟨h5, hF⟩ := zg_e hF
    refine z_i2l hx hb h5 dX4_asItem_48 ?_
    exact z_lret hX hr hlocks hH hF dX4_asItem_49
  have hF := zi_f hF hc
  by_cases hc : (M 0 1) = (3:Int)
  · have hF := zi_t hF hc
    refine z_tableIn (tgt := 50) (v := 3) hx hb hc (by decide) dX4_asItem_4 (by decide +kernel) (by decide +kernel) rfl (by decide) ?_
    refine lv_lload_n hx hb dX4_asItem_50 rfl (lv_at hl 1 rfl) ?_
    exact z_lret hX hr hlocks hH hF dX4_asItem_51
  have hF := zi_f hF hc
  cases hF
theorem flX4_hasRange_19 : zF RX4 wsX4_hasRange 19 4 2 := ⟨_, TX4, _, rfl, by decide +kernel, by decide +kernel, by decide, rfl⟩
set_option maxHeartbeats 4000000 in
set_option maxRecDepth 100000 in
theorem ctX4_hasRange (l : Launch) (D : va_G) (cs : Nat → ClassId) (α : Nat → Nat) (N : Nat) (M : zM) (a1 : Int) (a2 : Int) (r : Int) (M' : zM) (hF : fX4_hasRange N a1 a2 M = some (r, M')) : Met l yX4_hasRange wsX4_hasRange ({ frames := 0, cells := 0, slots := 0, locals := 0 }) (zPre D cs LTp α M [.ref (α 0), .int (nZ a1), .int (nZ a2)]) (zQi D cs LTp α r M') 0 0 (zA LTp.length α) := by
  refine z_met (cc := cX4_hasRange) (maxL := 3) (ret := (some .boolean)) (by decide +kernel) rfl RX4 rfl (Nat.le_of_ble_eq_true rfl) ?_
  intro p e s m below meth c ls hX hr hlocks hH hl
  have hx := hX.1.1
  have hb := hX.1.2.1
  have hts := hX.1.2.2.2.2
  have hl : lv_has ls 3 [(0, .ref (α 0)), (1, .int (nZ a1)), (2, .int (nZ a2))] := hl
  unfold fX4_hasRange at hF
  refine lv_iload_n hx hb dX4_hasRange_0 rfl (lv_at hl 1 rfl) ?_
  obtain ⟨h1, hF⟩ := zg_e hF
  refine z_if_lt (tgt := 30) hx hb h1 dX4_hasRange_1 (by decide) (fun hc => ?_) (fun hc => ?_)
  · have hF := zi_t hF hc
    refine z_iconst hx hb dX4_hasRange_30 ?_
    exact z_iret hX hr hlocks hH hF rfl dX4_hasRange_31
  · have hF := zi_f hF hc
    refine lv_iload_n hx hb dX4_hasRange_4 rfl (lv_at hl 2 rfl) ?_
    obtain ⟨h2, hF⟩ := zg_e hF
    refine z_if_lt (tgt := 30) hx hb h2 dX4_hasRange_5 (by decide) (fun hc => ?_) (fun hc => ?_)
    · have hF := zi_t hF hc
      refine z_iconst hx hb dX4_hasRange_30 ?_
      exact z_iret hX hr hlocks hH hF rfl dX4_hasRange_31
    · have hF := zi_f hF hc
      refine lv_iload_n hx hb dX4_hasRange_8 rfl (lv_at hl 2 rfl) ?_
      refine lv_aload_n hx hb dX4_hasRange_9 rfl (lv_at hl 0 rfl) ?_
      refine z_geti hX hH 0 2 rfl rfl flX4_hasRange_19 dX4_hasRange_10 ?_
      obtain ⟨h3, hF⟩ := zg_e hF
      refine z_icmp_gt (tgt := 30) hx hb h2 h3 dX4_hasRange_13 (by decide) (fun hc => ?_) (fun hc => ?_)
      · have hF := zi_t hF hc
        refine z_iconst hx hb dX4_hasRange_30 ?_
        exact z_iret hX hr hlocks hH hF rfl dX4_hasRange_31
      · have hF := zi_f hF hc
        refine lv_iload_n hx hb dX4_hasRange_16 rfl (lv_at hl 1 rfl) ?_
        refine lv_aload_n hx hb dX4_hasRange_17 rfl (lv_at hl 0 rfl) ?_
        refine z_geti hX hH 0 2 rfl rfl flX4_hasRange_19 dX4_hasRange_18 ?_
        refine lv_iload_n hx hb dX4_hasRange_21 rfl (lv_at hl 2 rfl) ?_
        refine z_isub hx hb dX4_hasRange_22 ?_
        obtain ⟨h4, hF⟩ := zg_e hF
        refine z_icmp_gt (tgt := 30) hx hb h1 h4 dX4_hasRange_23 (by decide) (fun hc => ?_) (fun hc => ?_)
        · have hF := zi_t hF hc
          refine z_iconst hx hb dX4_hasRange_30 ?_
          exact z_iret hX hr hlocks hH hF rfl dX4_hasRange_31
        · have hF := zi_f hF hc
          refine z_iconst hx hb dX4_hasRange_26 ?_
          refine lv_goto (tgt := 31) hx hb dX4_hasRange_27 (by decide) ?_
          exact z_iret hX hr hlocks hH hF rfl dX4_hasRange_31
theorem flX5_next_15 : zF RX5 wsX5_next 15 5 2 := ⟨_, TX5, _, rfl, by decide +kernel, by decide +kernel, by decide, rfl⟩
theorem flX5_next_28 : zF RX5 wsX5_next 28 5 1 := ⟨_, TX5, _, rfl, by decide +kernel, by decide +kernel, by decide, rfl⟩
theorem flX5_next_9 : zF RX5 wsX5_next 9 5 0 := ⟨_, TX5, _, rfl, by decide +kernel, by decide +kernel, by decide, rfl⟩
set_option maxHeartbeats 4000000 in
set_option maxRecDepth 100000 in
theorem ctX5_next (l : Launch) (D : va_G) (cs : Nat → ClassId) (α : Nat → Nat) (N : Nat) (M : zM) (r : Int) (M' : zM) (hF : fX5_next N M = some (r, M')) : Met l yX5_next wsX5_next ({ frames := 0, cells := 0, slots := 0, locals := 0 }) (zPre D cs LTx α M [.ref (α 0)]) (zQi D cs LTx α r M') 0 0 (zA LTx.length α) := by
  refine z_met (cc := cX5_next) (maxL := 1) (ret := (some .int)) (by decide +kernel) rfl RX5 rfl (Nat.le_of_ble_eq_true rfl) ?_
  intro p e s m below meth c ls hX hr hlocks hH hl
  have hx := hX.1.1
  have hb := hX.1.2.1
  have hts := hX.1.2.2.2.2
  have hl : lv_has ls 1 [(0, .ref (α 0))] := hl
  unfold fX5_next at hF
  refine lv_aload_n hx hb dX5_next_0 rfl (lv_at hl 0 rfl) ?_
  refine z_geti hX hH 0 2 rfl rfl flX5_next_15 dX5_next_1 ?_
  refine lv_aload_n hx hb dX5_next_4 rfl (lv_at hl 0 rfl) ?_
  refine z_geti hX hH 0 1 rfl rfl flX5_next_28 dX5_next_5 ?_
  obtain ⟨h1, hF⟩ := zg_e hF
  obtain ⟨h2, hF⟩ := zg_e hF
  refine z_icmp_ge (tgt := 23) hx hb h1 h2 dX5_next_8 (by decide) (fun hc => ?_) (fun hc => ?_)
  · have hF := zi_t hF hc
    refine z_bipush (v := -5) hx hb dX5_next_23 (by decide +kernel) ?_
    exact z_iret hX hr hlocks hH hF rfl dX5_next_25
  · have hF := zi_f hF hc
    refine lv_aload_n hx hb dX5_next_11 rfl (lv_at hl 0 rfl) ?_
    refine z_getr hX hH 0 0 1 rfl rfl flX5_next_9 dX5_next_12 ?_
    refine lv_aload_n hx hb dX5_next_15 rfl (lv_at hl 0 rfl) ?_
    refine z_geti hX hH 0 2 rfl rfl flX5_next_15 dX5_next_16 ?_
    obtain ⟨h3, hF⟩ := zg_e hF
    refine z_iald hX hH 1 100 rfl h3 (by decide) dX5_next_19 ?_
    refine lv_goto (tgt := 25) hx hb dX5_next_20 (by decide) ?_
    exact z_iret hX hr hlocks hH hF rfl dX5_next_25
theorem flX5_skip_15 : zF RX5 wsX5_skip 15 5 2 := ⟨_, TX5, _, rfl, by decide +kernel, by decide +kernel, by decide, rfl⟩
theorem fpX5_skip_15 : zFp RX5 wsX5_skip 15 5 2 .int := ⟨_, TX5, _, tyX5, rfl, by decide +kernel, by decide +kernel, by decide, rfl, tyX5_ok, nmX5, rfl, by decide +kernel⟩
set_option maxHeartbeats 4000000 in
set_option maxRecDepth 100000 in
theorem ctX5_skip (l : Launch) (D : va_G) (cs : Nat → ClassId) (α : Nat → Nat) (N : Nat) (M : zM) (a1 : Int) (a2 : Int) (r : Int) (M' : zM) (hF : fX5_skip N a1 a2 M = some (r, M')) : Met l yX5_skip wsX5_skip ({ frames := 1, cells := 0, slots := 0, locals := 20 }) (zPre D cs LTx α M [.ref (α 0), .int (nZ a1), .int (nZ a2)]) (zQi D cs LTx α r M') 0 0 (zA LTx.length α) := by
  refine z_met (cc := cX5_skip) (maxL := 4) (ret := (some .boolean)) (by decide +kernel) rfl RX5 rfl (Nat.le_of_ble_eq_true rfl) ?_
  intro p e s m below meth c ls hX hr hlocks hH hl
  have hx := hX.1.1
  have hb := hX.1.2.1
  have hts := hX.1.2.2.2.2
  have hl : lv_has ls 4 [(0, .ref (α 0)), (1, .int (nZ a1)), (2, .int (nZ a2))] := hl
  unfold fX5_skip at hF
  refine lv_aload_n hx hb dX5_skip_0 rfl (lv_at hl 0 rfl) ?_
  obtain ⟨r3, M2, c1, hF⟩ := zc2_e hF
  refine z_sameVi (As := []) hX hH 0 5 (ctX5_next l D cs α N M  r3 M2 c1) (cwV 0 hts gX5_skip_X5_next rfl rfl rfl (by decide +kernel) ⟨Nat.le_of_ble_eq_true rfl, Nat.le_of_ble_eq_true rfl⟩) rfl rfl rfl hl.1 (Nat.le_of_ble_eq_true rfl) rfl dX5_skip_1 ⟨Nat.zero_le _, Nat.zero_le _⟩ (fun H locs hH => ?_)
  obtain ⟨v4, ev4, hF⟩ := zl_e hF
  refine z_istore_n ev4 (lv' := [(3, .int (nZ v4)), (0, .ref (α 0)), (1, .int (nZ a1)), (2, .int (nZ a2))]) hx hb dX5_skip_4 rfl hl (by decide) rfl (fun ls hl => ?_)
  refine lv_iload_n hx hb dX5_skip_5 rfl (lv_at hl 0 rfl) ?_
  refine lv_iload_n hx hb dX5_skip_6 rfl (lv_at hl 2 rfl) ?_
  obtain ⟨h5, hF⟩ := zg_e hF
  obtain ⟨h6, hF⟩ := zg_e hF
  refine z_icmp_lt (tgt := 15) hx hb h5 h6 dX5_skip_7 (by decide) (fun hc => ?_) (fun hc => ?_)
  · have hF := zi_t hF hc
    refine z_iconst hx hb dX5_skip_15 ?_
    exact z_iret hX hr hlocks hH hF rfl dX5_skip_16
  · have hF := zi_f hF hc
    refine lv_iload_n hx hb dX5_skip_10 rfl (lv_at hl 0 rfl) ?_
    refine lv_iload_n hx hb dX5_skip_11 rfl (lv_at hl 3 rfl) ?_
    obtain ⟨h7, hF⟩ := zg_e hF
    refine z_icmp_le (tgt := 17) hx hb h5 h7 dX5_skip_12 (by decide) (fun hc => ?_) (fun hc => ?_)
    · have hF := zi_t hF hc
      refine lv_aload_n hx hb dX5_skip_17 rfl (lv_at hl 1 rfl) ?_
      refine lv_dup hx hb dX5_skip_18 rfl ?_
      refine z_geti hX hH 0 2 rfl rfl flX5_skip_15 dX5_skip_19 ?_
      refine z_iconst hx hb dX5_skip_22 ?_
      refine z_iadd hx hb dX5_skip_23 ?_
      obtain ⟨M8, eM8, hF⟩ := zl_e hF
      refine z_put hX hH 0 2 eM8 rfl rfl fpX5_skip_15 rfl rfl dX5_skip_24 (fun H locs hH => ?_)
      refine z_iconst hx hb dX5_skip_27 ?_
      exact z_iret hX hr hlocks hH hF rfl dX5_skip_28
    · have hF := zi_f hF hc
      refine z_iconst hx hb dX5_skip_15 ?_
      exact z_iret hX hr hlocks hH hF rfl dX5_skip_16
theorem em_LTxTr_is_0n2 : zemb LTxTr LTx is_0n2 = true := by decide +kernel
theorem flX5_readWeight_48 : zF RX5 wsX5_readWeight 48 6 2 := ⟨_, TX6, _, rfl, by decide +kernel, by decide +kernel, by decide, rfl⟩
set_option maxHeartbeats 4000000 in
set_option maxRecDepth 100000 in
theorem ctX5_readWeight (l : Launch) (D : va_G) (cs : Nat → ClassId) (α : Nat → Nat) (N : Nat) (M : zM) (a2 : Int) (r : Int) (M' : zM) (hF : fX5_readWeight N a2 M = some (r, M')) : Met l yX5_readWeight wsX5_readWeight ({ frames := 2, cells := 0, slots := 0, locals := 43 }) (zPre D cs LTxTr α M [.ref (α 0), .ref (α 2), .int (nZ a2)]) (zQi D cs LTxTr α r M') 0 0 (zA LTxTr.length α) := by
  refine z_met (cc := cX5_readWeight) (maxL := 3) (ret := (some .boolean)) (by decide +kernel) rfl RX5 rfl (Nat.le_of_ble_eq_true rfl) ?_
  intro p e s m below meth c ls hX hr hlocks hH hl
  have hx := hX.1.1
  have hb := hX.1.2.1
  have hts := hX.1.2.2.2.2
  have hl : lv_has ls 3 [(0, .ref (α 0)), (1, .ref (α 2)), (2, .int (nZ a2))] := hl
  unfold fX5_readWeight at hF
  refine lv_aload_n hx hb dX5_readWeight_0 rfl (lv_at hl 0 rfl) ?_
  refine z_bipush (v := 61) hx hb dX5_readWeight_1 (by decide +kernel) ?_
  refine z_bipush (v := 61) hx hb dX5_readWeight_3 (by decide +kernel) ?_
  obtain ⟨r3, M2, c1, hF⟩ := zc2_e hF
  obtain ⟨M4, eM4, hF⟩ := zl_e hF
  refine z_callVi (As := [.int (nZ (61:Int)), .int (nZ (61:Int))]) hX hH 0 5 em_LTxTr_is_0n2 (ctX5_skip l D cs (zsb is_0n2 α) N (zpk is_0n2 M) (61:Int) (61:Int) r3 M2 c1) (cwV 2 hts gX5_readWeight_X5_skip rfl rfl rfl (by decide +kernel) ⟨Nat.le_of_ble_eq_true rfl, Nat.le_of_ble_eq_true rfl⟩) rfl rfl rfl hl.1 (Nat.le_of_ble_eq_true rfl) rfl dX5_readWeight_5 ⟨Nat.zero_le _, Nat.zero_le _⟩ (fun H locs hH => ?_)
  rw [← eM4] at hH
  obtain ⟨h5, hF⟩ := zg_e hF
  refine z_if_ne (tgt := 13) hx hb h5 dX5_readWeight_8 (by decide) (fun hc => ?_) (fun hc => ?_)
  · have hF := zi_f hF hc
    refine lv_aload_n hx hb dX5_readWeight_13 rfl (lv_at hl 1 rfl) ?_
    refine z_getr hX hH 2 2 5 rfl rfl flX5_readWeight_48 dX5_readWeight_14 ?_
    refine lv_iload_n hx hb dX5_readWeight_17 rfl (lv_at hl 2 rfl) ?_
    refine lv_aload_n hx hb dX5_readWeight_18 rfl (lv_at hl 0 rfl) ?_
    obtain ⟨r8, M7, c6, hF⟩ := zc2_e hF
    obtain ⟨M9, eM9, hF⟩ := zl_e hF
    refine z_callVi (As := []) hX hH 0 5 em_LTxTr_is_0n2 (ctX5_next l D cs (zsb is_0n2 α) N (zpk is_0n2 M4)  r8 M7 c6) (cwV 0 hts gX5_readWeight_X5_next rfl rfl rfl (by decide +kernel) ⟨Nat.le_of_ble_eq_true rfl, Nat.le_of_ble_eq_true rfl⟩) rfl rfl rfl hl.1 (Nat.le_of_ble_eq_true rfl) rfl dX5_readWeight_19 ⟨Nat.zero_le _, Nat.zero_le _⟩ (fun H locs hH => ?_)
    rw [← eM9] at hH
    refine z_bipush (v := 48) hx hb dX5_readWeight_22 (by decide +kernel) ?_
    refine z_isub hx hb dX5_readWeight_24 ?_
    obtain ⟨h10, hF⟩ := zg_e hF
    obtain ⟨M11, eM11, hF⟩ := zl_e hF
    refine z_iast hX hH 5 20 eM11 rfl h10 (by decide) dX5_readWeight_25 (fun H locs hH => ?_)
    refine lv_aload_n hx hb dX5_readWeight_26 rfl (lv_at hl 0 rfl) ?_
    refine z_bipush (v := 49) hx hb dX5_readWeight_27 (by decide +kernel) ?_
    refine z_bipush (v := 57) hx hb dX5_readWeight_29 (by decide +kernel) ?_
    obtain ⟨r14, M13, c12, hF⟩ := zc2_e hF
    obtain ⟨M15, eM15, hF⟩ := zl_e hF
    refine z_callVi (As := [.int (nZ (49:Int)), .int (nZ (57:Int))]) hX hH 0 5 em_LTxTr_is_0n2 (ctX5_skip l D cs (zsb is_0n2 α) N (zpk is_0n2 M11) (49:Int) (57:Int) r14 M13 c12) (cwV 2 hts gX5_readWeight_X5_skip rfl rfl rfl (by decide +kernel) ⟨Nat.le_of_ble_eq_true rfl, Nat.le_of_ble_eq_true rfl⟩) rfl rfl rfl hl.1 (Nat.le_of_ble_eq_true rfl) rfl dX5_readWeight_31 ⟨Nat.zero_le _, Nat.zero_le _⟩ (fun H locs hH => ?_)
    rw [← eM15] at hH
    obtain ⟨h16, hF⟩ := zg_e hF
    exact z_iret hX hr hlocks hH hF (z_bool h16) dX5_readWeight_34
  · have hF := zi_t hF hc
    refine z_iconst hx hb dX5_readWeight_11 ?_
    exact z_iret hX hr hlocks hH hF rfl dX5_readWeight_12
theorem flX5_readClause_15 : zF RX5 wsX5_readClause 15 5 2 := ⟨_, TX5, _, rfl, by decide +kernel, by decide +kernel, by decide, rfl⟩
theorem fpX5_readClause_15 : zFp RX5 wsX5_readClause 15 5 2 .int := ⟨_, TX5, _, tyX5, rfl, by decide +kernel, by decide +kernel, by decide, rfl, tyX5_ok, nmX5, rfl, by decide +kernel⟩
theorem flX5_readClause_39 : zF RX5 wsX5_readClause 39 6 0 := ⟨_, TX6, _, rfl, by decide +kernel, by decide +kernel, by decide, rfl⟩
theorem flX5_readClause_42 : zF RX5 wsX5_readClause 42 6 1 := ⟨_, TX6, _, rfl, by decide +kernel, by decide +kernel, by decide, rfl⟩
set_option maxHeartbeats 4000000 in
set_option maxRecDepth 100000 in
theorem ctX5_readClause (l : Launch) (D : va_G) (cs : Nat → ClassId) (α : Nat → Nat) (N : Nat) (M : zM) (a2 : Int) (r : Int) (M' : zM) (hF : fX5_readClause N a2 M = some (r, M')) : Met l yX5_readClause wsX5_readClause ({ frames := 3, cells := 0, slots := 0, locals := 65 }) (zPre D cs LTxTr α M [.ref (α 0), .ref (α 2), .int (nZ a2)]) (zQi D cs LTxTr α r M') 0 0 (zA LTxTr.length α) := by
  refine z_met (cc := cX5_readClause) (maxL := 7) (ret := (some .boolean)) (by decide +kernel) rfl RX5 rfl (Nat.le_of_ble_eq_true rfl) ?_
  intro p e s m below meth c ls hX hr hlocks hH hl
  have hx := hX.1.1
  have hb := hX.1.2.1
  have hts := hX.1.2.2.2.2
  have J145 : ∀ (M0 : zM), sX5_readClause_145 N M0 = some (r, M') → zGo p l e (headSpec wsX5_readClause ({ frames := 3, cells := 0, slots := 0, locals := 65 })).room s m ([.ref (α 0), .ref (α 2), .int (nZ a2)] : List Value).toArray below meth c (MQ below (zQi D cs LTxTr α r M') ([.ref (α 0), .ref (α 2), .int (nZ a2)] : List Value).toArray s 0 0 (zA LTxTr.length α)) D cs LTxTr α (zA LTxTr.length α) 7 145 [] [] M0 := by
    intro M0 hF H locs ls hH hl
    unfold sX5_readClause_145 at hF
    refine z_iconst hx hb dX5_readClause_145 ?_
    refine lv_goto (tgt := 150) hx hb dX5_readClause_146 (by decide) ?_
    exact z_iret hX hr hlocks hH hF rfl dX5_readClause_150
  have J109 : ∀ (x2 : Int) (x3 : Int) (x4 : Int) (x5 : Int) (M0 : zM), sX5_readClause_109 N x2 x3 x4 x5 M0 = some (r, M') → zGo p l e (headSpec wsX5_readClause ({ frames := 3, cells := 0, slots := 0, locals := 65 })).room s m ([.ref (α 0), .ref (α 2), .int (nZ a2)] : List Value).toArray below meth c (MQ below (zQi D cs LTxTr α r M') ([.ref (α 0), .ref (α 2), .int (nZ a2)] : List Value).toArray s 0 0 (zA LTxTr.length α)) D cs LTxTr α (zA LTxTr.length α) 7 109 [(0, .ref (α 0)), (1, .ref (α 2)), (2, .int (nZ x2)), (3, .int (nZ x3)), (4, .int (nZ x4)), (5, .int (nZ x5))] [] M0 := by
    intro x2 x3 x4 x5 M0 hF H locs ls hH hl
    unfold sX5_readClause_109 at hF
    refine lv_aload_n hx hb dX5_readClause_109 rfl (lv_at hl 1 rfl) ?_
    refine z_getr hX hH 2 0 3 rfl rfl flX5_readClause_39 dX5_readClause_110 ?_
    refine lv_iload_n hx hb dX5_readClause_113 rfl (lv_at hl 2 rfl) ?_
    refine lv_iload_n hx hb dX5_readClause_114 rfl (lv_at hl 3 rfl) ?_
    obtain ⟨h38, hF⟩ := zg_e hF
    obtain ⟨M39, eM39, hF⟩ := zl_e hF
    refine z_iast hX hH 3 20 eM39 rfl h38 (by decide) dX5_readClause_115 (fun H locs hH => ?_)
    refine lv_aload_n hx hb dX5_readClause_116 rfl (lv_at hl 1 rfl) ?_
    refine z_getr hX hH 2 1 4 rfl rfl flX5_readClause_42 dX5_readClause_117 ?_
    refine lv_iload_n hx hb dX5_readClause_120 rfl (lv_at hl 2 rfl) ?_
    refine lv_iload hx hb dX5_readClause_121 (lv_at hl 4 rfl) ?_
    refine z_bipush (v := 100) hx hb dX5_readClause_123 (by decide +kernel) ?_
    refine z_imul hx hb dX5_readClause_125 ?_
    refine lv_iload hx hb dX5_readClause_126 (lv_at hl 5 rfl) ?_
    refine z_iadd hx hb dX5_readClause_128 ?_
    obtain ⟨M40, eM40, hF⟩ := zl_e hF
    refine z_iast hX hH 4 20 eM40 rfl h38 (by decide) dX5_readClause_129 (fun H locs hH => ?_)
    refine lv_iload_n hx hb dX5_readClause_130 rfl (lv_at hl 3 rfl) ?_
    refine z_bipush (v := 112) hx hb dX5_readClause_131 (by decide +kernel) ?_
    obtain ⟨h41, hF⟩ := zg_e hF
    refine z_icmp_ne (tgt := 145) hx hb h41 (by decide) dX5_readClause_133 (by decide) (fun hc => ?_) (fun hc => ?_)
    · have hF := zi_f hF hc
      exact J145 M40 hF _ _ _ hH (lv_sub hl [] rfl)
    · have hF := zi_t hF hc
      refine lv_aload_n hx hb dX5_readClause_136 rfl (lv_at hl 0 rfl) ?_
      refine lv_aload_n hx hb dX5_readClause_137 rfl (lv_at hl 1 rfl) ?_
      refine lv_iload_n hx hb dX5_readClause_138 rfl (lv_at hl 2 rfl) ?_
      obtain ⟨r44, M43, c42, hF⟩ := zc2_e hF
      refine z_sameVi (As := [.ref (α 2), .int (nZ x2)]) hX hH 0 5 (ctX5_readWeight l D cs α N M40 x2 r44 M43 c42) (cwV 2 hts gX5_readClause_X5_readWeight rfl rfl rfl (by decide +kernel) ⟨Nat.le_of_ble_eq_true rfl, Nat.le_of_ble_eq_true rfl⟩) rfl rfl rfl hl.1 (Nat.le_of_ble_eq_true rfl) rfl dX5_readClause_139 ⟨Nat.zero_le _, Nat.zero_le _⟩ (fun H locs hH => ?_)
      obtain ⟨h45, hF⟩ := zg_e hF
      refine z_if_eq (tgt := 149) hx hb h45 dX5_readClause_142 (by decide) (fun hc => ?_) (fun hc => ?_)
      · have hF := zi_t hF hc
        refine z_iconst hx hb dX5_readClause_149 ?_
        exact z_iret hX hr hlocks hH hF rfl dX5_readClause_150
      · have hF := zi_f hF hc
        exact J145 M43 hF _ _ _ hH (lv_sub hl [] rfl)
  have J25 : ∀ (x2 : Int) (x3 : Int) (M0 : zM), sX5_readClause_25 N x2 x3 M0 = some (r, M') → zGo p l e (headSpec wsX5_readClause ({ frames := 3, cells := 0, slots := 0, locals := 65 })).room s m ([.ref (α 0), .ref (α 2), .int (nZ a2)] : List Value).toArray below meth c (MQ below (zQi D cs LTxTr α r M') ([.ref (α 0), .ref (α 2), .int (nZ a2)] : List Value).toArray s 0 0 (zA LTxTr.length α)) D cs LTxTr α (zA LTxTr.length α) 7 25 [(0, .ref (α 0)), (1, .ref (α 2)), (2, .int (nZ x2)), (3, .int (nZ x3))] [] M0 := by
    intro x2 x3 M0 hF H locs ls hH hl
    unfold sX5_readClause_25 at hF
    refine lv_aload_n hx hb dX5_readClause_25 rfl (lv_at hl 0 rfl) ?_
    refine lv_dup hx hb dX5_readClause_26 rfl ?_
    refine z_geti hX hH 0 2 rfl rfl flX5_readClause_15 dX5_readClause_27 ?_
    refine z_iconst hx hb dX5_readClause_30 ?_
    refine z_iadd hx hb dX5_readClause_31 ?_
    obtain ⟨M7, eM7, hF⟩ := zl_e hF
    refine z_put hX hH 0 2 eM7 rfl rfl fpX5_readClause_15 rfl rfl dX5_readClause_32 (fun H locs hH => ?_)
    refine lv_aload_n hx hb dX5_readClause_35 rfl (lv_at hl 0 rfl) ?_
    obtain ⟨r10, M9, c8, hF⟩ := zc2_e hF
    obtain ⟨M11, eM11, hF⟩ := zl_e hF
    refine z_callVi (As := []) hX hH 0 5 em_LTxTr_is_0n2 (ctX5_next l D cs (zsb is_0n2 α) N (zpk is_0n2 M7)  r10 M9 c8) (cwV 0 hts gX5_readClause_X5_next rfl rfl rfl (by decide +kernel) ⟨Nat.le_of_ble_eq_true rfl, Nat.le_of_ble_eq_true rfl⟩) rfl rfl rfl hl.1 (Nat.le_of_ble_eq_true rfl) rfl dX5_readClause_36 ⟨Nat.zero_le _, Nat.zero_le _⟩ (fun H locs hH => ?_)
    rw [← eM11] at hH
    refine z_bipush (v := 97) hx hb dX5_readClause_39 (by decide +kernel) ?_
    refine z_isub hx hb dX5_readClause_41 ?_
    obtain ⟨v12, ev12, hF⟩ := zl_e hF
    refine z_istore ev12 (lv' := [(4, .int (nZ v12)), (0, .ref (α 0)), (1, .ref (α 2)), (2, .int (nZ x2)), (3, .int (nZ x3))]) hx hb dX5_readClause_42 hl (by decide) rfl (fun ls hl => ?_)
    refine lv_aload_n hx hb dX5_readClause_44 rfl (lv_at hl 1 rfl) ?_
    refine z_bipush (v := 97) hx hb dX5_readClause_45 (by decide +kernel) ?_
    refine z_bipush (v := 100) hx hb dX5_readClause_47 (by decide +kernel) ?_
    obtain ⟨r15, M14, c13, hF⟩ := zc2_e hF
    obtain ⟨M16, eM16, hF⟩ := zl_e hF
    refine z_callVi (As := [.int (nZ (97:Int)), .int (nZ (100:Int))]) hX hH 0 5 em_LTxTr_is_0n2 (ctX5_skip l D cs (zsb is_0n2 α) N (zpk is_0n2 M11) (97:Int) (100:Int) r15 M14 c13) (cwV 2 hts gX5_readClause_X5_skip rfl rfl rfl (by decide +kernel) ⟨Nat.le_of_ble_eq_true rfl, Nat.le_of_ble_eq_true rfl⟩) rfl rfl rfl hl.1 (Nat.le_of_ble_eq_true rfl) rfl dX5_readClause_49 ⟨Nat.zero_le _, Nat.zero_le _⟩ (fun H locs hH => ?_)
    rw [← eM16] at hH
    obtain ⟨h17, hF⟩ := zg_e hF
    refine z_if_ne (tgt := 57) hx hb h17 dX5_readClause_52 (by decide) (fun hc => ?_) (fun hc => ?_)
    · have hF := zi_f hF hc
      refine lv_aload_n hx hb dX5_readClause_57 rfl (lv_at hl 1 rfl) ?_
      obtain ⟨r20, M19, c18, hF⟩ := zc2_e hF
      obtain ⟨M21, eM21, hF⟩ := zl_e hF
      refine z_callVi (As := []) hX hH 0 5 em_LTxTr_is_0n2 (ctX5_next l D cs (zsb is_0n2 α) N (zpk is_0n2 M16)  r20 M19 c18) (cwV 0 hts gX5_readClause_X5_next rfl rfl rfl (by decide +kernel) ⟨Nat.le_of_ble_eq_true rfl, Nat.le_of_ble_eq_true rfl⟩) rfl rfl rfl hl.1 (Nat.le_of_ble_eq_true rfl) rfl dX5_readClause_58 ⟨Nat.zero_le _, Nat.zero_le _⟩ (fun H locs hH => ?_)
      rw [← eM21] at hH
      refine z_bipush (v := 48) hx hb dX5_readClause_61 (by decide +kernel) ?_
      refine z_isub hx hb dX5_readClause_63 ?_
      obtain ⟨v22, ev22, hF⟩ := zl_e hF
      refine z_istore ev22 (lv' := [(5, .int (nZ v22)), (4, .int (nZ v12)), (0, .ref (α 0)), (1, .ref (α 2)), (2, .int (nZ x2)), (3, .int (nZ x3))]) hx hb dX5_readClause_64 hl (by decide) rfl (fun ls hl => ?_)
      refine lv_aload_n hx hb dX5_readClause_66 rfl (lv_at hl 2 rfl) ?_
      refine z_bipush (v := 48) hx hb dX5_readClause_67 (by decide +kernel) ?_
      refine z_bipush (v := 57) hx hb dX5_readClause_69 (by decide +kernel) ?_
      obtain ⟨r25, M24, c23, hF⟩ := zc2_e hF
      obtain ⟨M26, eM26, hF⟩ := zl_e hF
      refine z_callVi (As := [.int (nZ (48:Int)), .int (nZ (57:Int))]) hX hH 0 5 em_LTxTr_is_0n2 (ctX5_skip l D cs (zsb is_0n2 α) N (zpk is_0n2 M21) (48:Int) (57:Int) r25 M24 c23) (cwV 2 hts gX5_readClause_X5_skip rfl rfl rfl (by decide +kernel) ⟨Nat.le_of_ble_eq_true rfl, Nat.le_of_ble_eq_true rfl⟩) rfl rfl rfl hl.1 (Nat.le_of_ble_eq_true rfl) rfl dX5_readClause_71 ⟨Nat.zero_le _, Nat.zero_le _⟩ (fun H locs hH => ?_)
      rw [← eM26] at hH
      obtain ⟨h27, hF⟩ := zg_e hF
      refine z_if_ne (tgt := 79) hx hb h27 dX5_readClause_74 (by decide) (fun hc => ?_) (fun hc => ?_)
      · have hF := zi_f hF hc
        refine lv_aload_n hx hb dX5_readClause_79 rfl (lv_at hl 2 rfl) ?_
        obtain ⟨r30, M29, c28, hF⟩ := zc2_e hF
        obtain ⟨M31, eM31, hF⟩ := zl_e hF
        refine z_callVi (As := []) hX hH 0 5 em_LTxTr_is_0n2 (ctX5_next l D cs (zsb is_0n2 α) N (zpk is_0n2 M26)  r30 M29 c28) (cwV 0 hts gX5_readClause_X5_next rfl rfl rfl (by decide +kernel) ⟨Nat.le_of_ble_eq_true rfl, Nat.le_of_ble_eq_true rfl⟩) rfl rfl rfl hl.1 (Nat.le_of_ble_eq_true rfl) rfl dX5_readClause_80 ⟨Nat.zero_le _, Nat.zero_le _⟩ (fun H locs hH => ?_)
        rw [← eM31] at hH
        refine z_bipush (v := 48) hx hb dX5_readClause_83 (by decide +kernel) ?_
        refine z_isub hx hb dX5_readClause_85 ?_
        obtain ⟨v32, ev32, hF⟩ := zl_e hF
        refine z_istore ev32 (lv' := [(6, .int (nZ v32)), (5, .int (nZ v22)), (4, .int (nZ v12)), (0, .ref (α 0)), (1, .ref (α 2)), (2, .int (nZ x2)), (3, .int (nZ x3))]) hx hb dX5_readClause_86 hl (by decide) rfl (fun ls hl => ?_)
        refine lv_aload_n hx hb dX5_readClause_88 rfl (lv_at hl 3 rfl) ?_
        refine z_bipush (v := 48) hx hb dX5_readClause_89 (by decide +kernel) ?_
        refine z_bipush (v := 57) hx hb dX5_readClause_91 (by decide +kernel) ?_
        obtain ⟨r35, M34, c33, hF⟩ := zc2_e hF
        obtain ⟨M36, eM36, hF⟩ := zl_e hF
        refine z_callVi (As := [.int (nZ (48:Int)), .int (nZ (57:Int))]) hX hH 0 5 em_LTxTr_is_0n2 (ctX5_skip l D cs (zsb is_0n2 α) N (zpk is_0n2 M31) (48:Int) (57:Int) r35 M34 c33) (cwV 2 hts gX5_readClause_X5_skip rfl rfl rfl (by decide +kernel) ⟨Nat.le_of_ble_eq_true rfl, Nat.le_of_ble_eq_true rfl⟩) rfl rfl rfl hl.1 (Nat.le_of_ble_eq_true rfl) rfl dX5_readClause_93 ⟨Nat.zero_le _, Nat.zero_le _⟩ (fun H locs hH => ?_)
        rw [← eM36] at hH
        obtain ⟨h37, hF⟩ := zg_e hF
        refine z_if_eq (tgt := 109) hx hb h37 dX5_readClause_96 (by decide) (fun hc => ?_) (fun hc => ?_)
        · have hF := zi_t hF hc
          exact J109 x2 x3 v12 v22 M36 hF _ _ _ hH (lv_sub hl [3, 4, 5, 6, 2, 1] rfl)
        · have hF := zi_f hF hc
          refine lv_iload hx hb dX5_readClause_99 (lv_at hl 1 rfl) ?_
          refine z_bipush (v := 10) hx hb dX5_readClause_101 (by decide +kernel) ?_
          refine z_imul hx hb dX5_readClause_103 ?_
          refine lv_iload hx hb dX5_readClause_104 (lv_at hl 0 rfl) ?_
          refine z_iadd hx hb dX5_readClause_106 ?_
          obtain ⟨v46, ev46, hF⟩ := zl_e hF
          refine z_istore ev46 (lv' := [(5, .int (nZ v46)), (6, .int (nZ v32)), (4, .int (nZ v12)), (0, .ref (α 0)), (1, .ref (α 2)), (2, .int (nZ x2)), (3, .int (nZ x3))]) hx hb dX5_readClause_107 hl (by decide) rfl (fun ls hl => ?_)
          exact J109 x2 x3 v12 v46 M36 hF _ _ _ hH (lv_sub hl [3, 4, 5, 6, 2, 0] rfl)
      · have hF := zi_t hF hc
        refine z_iconst hx hb dX5_readClause_77 ?_
        exact z_iret hX hr hlocks hH hF rfl dX5_readClause_78
    · have hF := zi_t hF hc
      refine z_iconst hx hb dX5_readClause_55 ?_
      exact z_iret hX hr hlocks hH hF rfl dX5_readClause_56
  have hl : lv_has ls 7 [(0, .ref (α 0)), (1, .ref (α 2)), (2, .int (nZ a2))] := hl
  unfold fX5_readClause at hF
  refine lv_aload_n hx hb dX5_readClause_0 rfl (lv_at hl 0 rfl) ?_
  obtain ⟨r3, M2, c1, hF⟩ := zc2_e hF
  obtain ⟨M4, eM4, hF⟩ := zl_e hF
  refine z_callVi (As := []) hX hH 0 5 em_LTxTr_is_0n2 (ctX5_next l D cs (zsb is_0n2 α) N (zpk is_0n2 M)  r3 M2 c1) (cwV 0 hts gX5_readClause_X5_next rfl rfl rfl (by decide +kernel) ⟨Nat.le_of_ble_eq_true rfl, Nat.le_of_ble_eq_true rfl⟩) rfl rfl rfl hl.1 (Nat.le_of_ble_eq_true rfl) rfl dX5_readClause_1 ⟨Nat.zero_le _, Nat.zero_le _⟩ (fun H locs hH => ?_)
  rw [← eM4] at hH
  obtain ⟨v5, ev5, hF⟩ := zl_e hF
  refine z_istore_n ev5 (lv' := [(3, .int (nZ v5)), (0, .ref (α 0)), (1, .ref (α 2)), (2, .int (nZ a2))]) hx hb dX5_readClause_4 rfl hl (by decide) rfl (fun ls hl => ?_)
  refine lv_iload_n hx hb dX5_readClause_5 rfl (lv_at hl 0 rfl) ?_
  refine z_bipush (v := 103) hx hb dX5_readClause_6 (by decide +kernel) ?_
  obtain ⟨h6, hF⟩ := zg_e hF
  refine z_icmp_eq (tgt := 25) hx hb h6 (by decide) dX5_readClause_8 (by decide) (fun hc => ?_) (fun hc => ?_)
  · have hF := zi_t hF hc
    exact J25 a2 v5 M4 hF _ _ _ hH (lv_sub hl [1, 2, 3, 0] rfl)
  · have hF := zi_f hF hc
    refine lv_iload_n hx hb dX5_readClause_11 rfl (lv_at hl 0 rfl) ?_
    refine z_bipush (v := 112) hx hb dX5_readClause_12 (by decide +kernel) ?_
    refine z_icmp_eq (tgt := 25) hx hb h6 (by decide) dX5_readClause_14 (by decide) (fun hc => ?_) (fun hc => ?_)
    · have hF := zi_t hF hc
      exact J25 a2 v5 M4 hF _ _ _ hH (lv_sub hl [1, 2, 3, 0] rfl)
    · have hF := zi_f hF hc
      refine lv_iload_n hx hb dX5_readClause_17 rfl (lv_at hl 0 rfl) ?_
      refine z_bipush (v := 120) hx hb dX5_readClause_18 (by decide +kernel) ?_
      refine z_icmp_eq (tgt := 25) hx hb h6 (by decide) dX5_readClause_20 (by decide) (fun hc => ?_) (fun hc => ?_)
      · have hF := zi_t hF hc
        exact J25 a2 v5 M4 hF _ _ _ hH (lv_sub hl [1, 2, 3, 0] rfl)
      · have hF := zi_f hF hc
        refine z_iconst hx hb dX5_readClause_23 ?_
        exact z_iret hX hr hlocks hH hF rfl dX5_readClause_24
theorem fpX5_readInto_15 : zFp RX5 wsX5_readInto 15 5 2 .int := ⟨_, TX5, _, tyX5, rfl, by decide +kernel, by decide +kernel, by decide, rfl, tyX5_ok, nmX5, rfl, by decide +kernel⟩
theorem flX5_readInto_15 : zF RX5 wsX5_readInto 15 5 2 := ⟨_, TX5, _, rfl, by decide +kernel, by decide +kernel, by decide, rfl⟩
theorem fpX5_readInto_23 : zFp RX5 wsX5_readInto 23 6 3 .int := ⟨_, TX6, _, tyX6, rfl, by decide +kernel, by decide +kernel, by decide, rfl, tyX6_ok, nmX6, rfl, by decide +kernel⟩
theorem flX5_readInto_28 : zF RX5 wsX5_readInto 28 5 1 := ⟨_, TX5, _, rfl, by decide +kernel, by decide +kernel, by decide, rfl⟩
set_option maxHeartbeats 4000000 in
set_option maxRecDepth 100000 in
theorem ctX5_readInto (l : Launch) (D : va_G) (cs : Nat → ClassId) (α : Nat → Nat) (N : Nat) (M : zM) (r : Int) (M' : zM) (hF : fX5_readInto N M = some (r, M')) : Met l yX5_readInto wsX5_readInto ({ frames := 4, cells := 0, slots := 0, locals := 91 }) (zPre D cs LTxTr α M [.ref (α 0), .ref (α 2)]) (zQi D cs LTxTr α r M') 0 0 (zA LTxTr.length α) := by
  refine z_met (cc := cX5_readInto) (maxL := 3) (ret := (some .int)) (by decide +kernel) rfl RX5 rfl (Nat.le_of_ble_eq_true rfl) ?_
  intro p e s m below meth c ls hX hr hlocks hH hl
  have hx := hX.1.1
  have hb := hX.1.2.1
  have hts := hX.1.2.2.2.2
  have J65 : ∀ (M0 : zM), sX5_readInto_65 N M0 = some (r, M') → zGo p l e (headSpec wsX5_readInto ({ frames := 4, cells := 0, slots := 0, locals := 91 })).room s m ([.ref (α 0), .ref (α 2)] : List Value).toArray below meth c (MQ below (zQi D cs LTxTr α r M') ([.ref (α 0), .ref (α 2)] : List Value).toArray s 0 0 (zA LTxTr.length α)) D cs LTxTr α (zA LTxTr.length α) 3 65 [(0, .ref (α 0))] [] M0 := by
    intro M0 hF H locs ls hH hl
    unfold sX5_readInto_65 at hF
    refine lv_aload_n hx hb dX5_readInto_65 rfl (lv_at hl 0 rfl) ?_
    refine z_geti hX hH 0 2 rfl rfl flX5_readInto_15 dX5_readInto_66 ?_
    exact z_iret hX hr hlocks hH hF rfl dX5_readInto_69
  have L7 : ∀ (n : Nat) (x2 : Int) (M0 : zM), fX5_readInto_7 N n x2 M0 = some (r, M') → zGo p l e (headSpec wsX5_readInto ({ frames := 4, cells := 0, slots := 0, locals := 91 })).room s m ([.ref (α 0), .ref (α 2)] : List Value).toArray below meth c (MQ below (zQi D cs LTxTr α r M') ([.ref (α 0), .ref (α 2)] : List Value).toArray s 0 0 (zA LTxTr.length α)) D cs LTxTr α (zA LTxTr.length α) 3 7 [(0, .ref (α 0)), (1, .ref (α 2)), (2, .int (nZ x2))] [] M0 := by
    intro  n
    induction n with
    | zero =>
      intro x2 M0 hF
      have hF : (none : Option (Int × zM)) = some (r, M') := hF
      cases hF
    | succ n hk7 =>
      intro x2 M0 hF H locs ls hH hl
      have hF : sX5_readInto_7 N (fun x2 M0 => fX5_readInto_7 N n x2 M0) x2 M0 = some (r, M') := hF
      unfold sX5_readInto_7 at hF
      refine lv_iload_n hx hb dX5_readInto_7 rfl (lv_at hl 2 rfl) ?_
      refine z_bipush (v := 20) hx hb dX5_readInto_8 (by decide +kernel) ?_
      obtain ⟨h3, hF⟩ := zg_e hF
      refine z_icmp_ge (tgt := 76) hx hb h3 (by decide) dX5_readInto_10 (by decide) (fun hc => ?_) (fun hc => ?_)
      · have hF := zi_t hF hc
        refine lv_aload_n hx hb dX5_readInto_76 rfl (lv_at hl 0 rfl) ?_
        refine z_geti hX hH 0 2 rfl rfl flX5_readInto_15 dX5_readInto_77 ?_
        exact z_iret hX hr hlocks hH hF rfl dX5_readInto_80
      · have hF := zi_f hF hc
        refine lv_aload_n hx hb dX5_readInto_13 rfl (lv_at hl 0 rfl) ?_
        refine lv_aload_n hx hb dX5_readInto_14 rfl (lv_at hl 1 rfl) ?_
        refine lv_iload_n hx hb dX5_readInto_15 rfl (lv_at hl 2 rfl) ?_
        obtain ⟨r6, M5, c4, hF⟩ := zc2_e hF
        refine z_sameVi (As := [.ref (α 2), .int (nZ x2)]) hX hH 0 5 (ctX5_readClause l D cs α N M0 x2 r6 M5 c4) (cwV 2 hts gX5_readInto_X5_readClause rfl rfl rfl (by decide +kernel) ⟨Nat.le_of_ble_eq_true rfl, Nat.le_of_ble_eq_true rfl⟩) rfl rfl rfl hl.1 (Nat.le_of_ble_eq_true rfl) rfl dX5_readInto_16 ⟨Nat.zero_le _, Nat.zero_le _⟩ (fun H locs hH => ?_)
        obtain ⟨h7, hF⟩ := zg_e hF
        refine z_if_ne (tgt := 27) hx hb h7 dX5_readInto_19 (by decide) (fun hc => ?_) (fun hc => ?_)
        · have hF := zi_f hF hc
          refine lv_aload_n hx hb dX5_readInto_27 rfl (lv_at hl 1 rfl) ?_
          refine lv_iload_n hx hb dX5_readInto_28 rfl (lv_at hl 2 rfl) ?_
          refine z_iconst hx hb dX5_readInto_29 ?_
          refine z_iadd hx hb dX5_readInto_30 ?_
          obtain ⟨M8, eM8, hF⟩ := zl_e hF
          refine z_put hX hH 2 3 eM8 rfl rfl fpX5_readInto_23 rfl rfl dX5_readInto_31 (fun H locs hH => ?_)
          refine lv_aload_n hx hb dX5_readInto_34 rfl (lv_at hl 0 rfl) ?_
          refine z_geti hX hH 0 2 rfl rfl flX5_readInto_15 dX5_readInto_35 ?_
          refine lv_aload_n hx hb dX5_readInto_38 rfl (lv_at hl 0 rfl) ?_
          refine z_geti hX hH 0 1 rfl rfl flX5_readInto_28 dX5_readInto_39 ?_
          obtain ⟨h9, hF⟩ := zg_e hF
          obtain ⟨h10, hF⟩ := zg_e hF
          refine z_icmp_lt (tgt := 48) hx hb h9 h10 dX5_readInto_42 (by decide) (fun hc => ?_) (fun hc => ?_)
          · have hF := zi_t hF hc
            refine lv_iload_n hx hb dX5_readInto_48 rfl (lv_at hl 2 rfl) ?_
            refine z_bipush (v := 19) hx hb dX5_readInto_49 (by decide +kernel) ?_
            refine z_icmp_eq (tgt := 65) hx hb h3 (by decide) dX5_readInto_51 (by decide) (fun hc => ?_) (fun hc => ?_)
            · have hF := zi_t hF hc
              exact J65 M8 hF _ _ _ hH (lv_sub hl [0] rfl)
            · have hF := zi_f hF hc
              refine lv_aload_n hx hb dX5_readInto_54 rfl (lv_at hl 0 rfl) ?_
              refine z_bipush (v := 59) hx hb dX5_readInto_55 (by decide +kernel) ?_
              refine z_bipush (v := 59) hx hb dX5_readInto_57 (by decide +kernel) ?_
              obtain ⟨r13, M12, c11, hF⟩ := zc2_e hF
              obtain ⟨M14, eM14, hF⟩ := zl_e hF
              refine z_callVi (As := [.int (nZ (59:Int)), .int (nZ (59:Int))]) hX hH 0 5 em_LTxTr_is_0n2 (ctX5_skip l D cs (zsb is_0n2 α) N (zpk is_0n2 M8) (59:Int) (59:Int) r13 M12 c11) (cwV 2 hts gX5_readInto_X5_skip rfl rfl rfl (by decide +kernel) ⟨Nat.le_of_ble_eq_true rfl, Nat.le_of_ble_eq_true rfl⟩) rfl rfl rfl hl.1 (Nat.le_of_ble_eq_true rfl) rfl dX5_readInto_59 ⟨Nat.zero_le _, Nat.zero_le _⟩ (fun H locs hH => ?_)
              rw [← eM14] at hH
              obtain ⟨h15, hF⟩ := zg_e hF
              refine z_if_ne (tgt := 70) hx hb h15 dX5_readInto_62 (by decide) (fun hc => ?_) (fun hc => ?_)
              · have hF := zi_f hF hc
                obtain ⟨v16, ev16, hF⟩ := zl_e hF
                refine z_iinc ev16 (lv' := [(2, .int (nZ v16)), (0, .ref (α 0)), (1, .ref (α 2))]) hx hb dX5_readInto_70 hl (k := 2) rfl (by decide) rfl (fun ls hl => ?_)
                refine lv_goto (tgt := 7) hx hb dX5_readInto_73 (by decide) ?_
                exact hk7 v16 M14 hF _ _ _ hH (lv_sub hl [1, 2, 0] rfl)
              · have hF := zi_t hF hc
                exact J65 M14 hF _ _ _ hH (lv_sub hl [0] rfl)
          · have hF := zi_f hF hc
            refine z_bipush (v := -5) hx hb dX5_readInto_45 (by decide +kernel) ?_
            exact z_iret hX hr hlocks hH hF rfl dX5_readInto_47
        · have hF := zi_t hF hc
          refine lv_aload_n hx hb dX5_readInto_22 rfl (lv_at hl 0 rfl) ?_
          refine z_geti hX hH 0 2 rfl rfl flX5_readInto_15 dX5_readInto_23 ?_
          exact z_iret hX hr hlocks hH hF rfl dX5_readInto_26
  have hl : lv_has ls 3 [(0, .ref (α 0)), (1, .ref (α 2))] := hl
  unfold fX5_readInto at hF
  refine lv_aload_n hx hb dX5_readInto_0 rfl (lv_at hl 0 rfl) ?_
  refine z_iconst hx hb dX5_readInto_1 ?_
  obtain ⟨M1, eM1, hF⟩ := zl_e hF
  refine z_put hX hH 0 2 eM1 rfl rfl fpX5_readInto_15 rfl rfl dX5_readInto_2 (fun H locs hH => ?_)
  refine z_iconst hx hb dX5_readInto_5 ?_
  obtain ⟨v2, ev2, hF⟩ := zl_e hF
  refine z_istore_n ev2 (lv' := [(2, .int (nZ v2)), (0, .ref (α 0)), (1, .ref (α 2))]) hx hb dX5_readInto_6 rfl hl (by decide) rfl (fun ls hl => ?_)
  exact L7 N v2 M1 hF _ _ _ hH (lv_sub hl [1, 2, 0] rfl)
