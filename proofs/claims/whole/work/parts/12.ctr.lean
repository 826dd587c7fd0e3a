/-! laid by wip/whole/gen.py: contracts -/
theorem flX3_copyFrom_9 : zF RX3 wsX3_copyFrom 9 3 0 := ⟨_, TX3, _, rfl, by decide +kernel, by decide +kernel, by decide, rfl⟩
theorem flX3_copyFrom_15 : zF RX3 wsX3_copyFrom 15 3 1 := ⟨_, TX3, _, rfl, by decide +kernel, by decide +kernel, by decide, rfl⟩
theorem flX3_copyFrom_21 : zF RX3 wsX3_copyFrom 21 3 2 := ⟨_, TX3, _, rfl, by decide +kernel, by decide +kernel, by decide, rfl⟩
theorem em_LSt2_is_3n5_24n5 : zemb LSt2 LQ2 is_3n5_24n5 = true := by decide +kernel
theorem flX3_copyFrom_33 : zF RX3 wsX3_copyFrom 33 3 4 := ⟨_, TX3, _, rfl, by decide +kernel, by decide +kernel, by decide, rfl⟩
theorem em_LSt2_is_16n2_37n2 : zemb LSt2 LLeav2 is_16n2_37n2 = true := by decide +kernel
theorem flX3_copyFrom_40 : zF RX3 wsX3_copyFrom 40 3 5 := ⟨_, TX3, _, rfl, by decide +kernel, by decide +kernel, by decide, rfl⟩
theorem em_LSt2_is_18n3_39n3 : zemb LSt2 LBook2 is_18n3_39n3 = true := by decide +kernel
theorem flX3_copyFrom_27 : zF RX3 wsX3_copyFrom 27 3 3 := ⟨_, TX3, _, rfl, by decide +kernel, by decide +kernel, by decide, rfl⟩
theorem ra_LSt2_30 : ∀ i : Nat, i < 7 → ([30, 31, 32, 33, 34, 35, 36] : List Nat)[i]? = some (30 + 1 * i) := fun i h => match i, h with | 0, _ => rfl | 1, _ => rfl | 2, _ => rfl | 3, _ => rfl | 4, _ => rfl | 5, _ => rfl | 6, _ => rfl | n + 7, h => absurd h (by omega)
theorem ra_LSt2_9 : ∀ i : Nat, i < 7 → ([9, 10, 11, 12, 13, 14, 15] : List Nat)[i]? = some (9 + 1 * i) := fun i h => match i, h with | 0, _ => rfl | 1, _ => rfl | 2, _ => rfl | 3, _ => rfl | 4, _ => rfl | 5, _ => rfl | 6, _ => rfl | n + 7, h => absurd h (by omega)
theorem fm_LSt2_30_0 : ∀ i : Nat, i < 7 → LSt2[30 + 1 * i]? = some (1, 400, []) := fun i h => match i, h with | 0, _ => rfl | 1, _ => rfl | 2, _ => rfl | 3, _ => rfl | 4, _ => rfl | 5, _ => rfl | 6, _ => rfl | n + 7, h => absurd h (by omega)
theorem fm_LSt2_9_0 : ∀ i : Nat, i < 7 → LSt2[9 + 1 * i]? = some (1, 400, []) := fun i h => match i, h with | 0, _ => rfl | 1, _ => rfl | 2, _ => rfl | 3, _ => rfl | 4, _ => rfl | 5, _ => rfl | 6, _ => rfl | n + 7, h => absurd h (by omega)
set_option maxHeartbeats 4000000 in
set_option maxRecDepth 100000 in
theorem ctX3_copyFrom (l : Launch) (D : va_G) (cs : Nat → ClassId) (α : Nat → Nat) (N : Nat) (M : zM) (M' : zM) (hF : fX3_copyFrom N M = some M') : Met l yX3_copyFrom wsX3_copyFrom ({ frames := 2, cells := 0, slots := 0, locals := 61 }) (zPre D cs LSt2 α M [.ref (α 0), .ref (α 21)]) (zQv D cs LSt2 α M') 0 0 (zA LSt2.length α) := by
  refine z_met (cc := cX3_copyFrom) (maxL := 3) (ret := none) (by decide +kernel) rfl RX3 rfl (Nat.le_of_ble_eq_true rfl) ?_
  intro p e s m below meth c ls hX hr hlocks hH hl
  have hx := hX.1.1
  have hb := hX.1.2.1
  have hts := hX.1.2.2.2.2
  have L41 : ∀ (n : Nat) (x2 : Int) (M0 : zM), fX3_copyFrom_41 N n x2 M0 = some M' → zGo p l e (headSpec wsX3_copyFrom ({ frames := 2, cells := 0, slots := 0, locals := 61 })).room s m ([.ref (α 0), .ref (α 21)] : List Value).toArray below meth c (MQ below (zQv D cs LSt2 α M') ([.ref (α 0), .ref (α 21)] : List Value).toArray s 0 0 (zA LSt2.length α)) D cs LSt2 α (zA LSt2.length α) 3 41 [(0, .ref (α 0)), (1, .ref (α 21)), (2, .int (nZ x2))] [] M0 := by
    intro  n
    induction n with
    | zero =>
      intro x2 M0 hF
      have hF : (none : Option zM) = some M' := hF
      cases hF
    | succ n hk41 =>
      intro x2 M0 hF H locs ls hH hl
      have hF : sX3_copyFrom_41 N (fun x2 M0 => fX3_copyFrom_41 N n x2 M0) x2 M0 = some M' := hF
      unfold sX3_copyFrom_41 at hF
      refine lv_iload_n hx hb dX3_copyFrom_41 rfl (lv_at hl 2 rfl) ?_
      refine z_bipush (v := 7) hx hb dX3_copyFrom_42 (by decide +kernel) ?_
      obtain ⟨h7, hF⟩ := zg_e hF
      refine z_icmp_ge (tgt := 73) hx hb h7 (by decide) dX3_copyFrom_44 (by decide) (fun hc => ?_) (fun hc => ?_)
      · have hF := zi_t hF hc
        refine lv_aload_n hx hb dX3_copyFrom_73 rfl (lv_at hl 0 rfl) ?_
        refine z_getr hX hH 0 4 16 rfl rfl flX3_copyFrom_33 dX3_copyFrom_74 ?_
        refine lv_aload_n hx hb dX3_copyFrom_77 rfl (lv_at hl 1 rfl) ?_
        refine z_getr hX hH 21 4 37 rfl rfl flX3_copyFrom_33 dX3_copyFrom_78 ?_
        obtain ⟨M9, c8, hF⟩ := zc_e hF
        obtain ⟨M10, eM10, hF⟩ := zl_e hF
        refine z_callVv (As := [.ref (α 37)]) hX hH 16 1 em_LSt2_is_16n2_37n2 (ctX1_copyFrom l D cs (zsb is_16n2_37n2 α) N (zpk is_16n2_37n2 M0)  M9 c8) (cwV 1 hts gX3_copyFrom_X1_copyFrom rfl rfl rfl (by decide +kernel) ⟨Nat.le_of_ble_eq_true rfl, Nat.le_of_ble_eq_true rfl⟩) rfl rfl rfl hl.1 (Nat.le_of_ble_eq_true rfl) rfl dX3_copyFrom_81 ⟨Nat.zero_le _, Nat.zero_le _⟩ (fun H locs hH => ?_)
        rw [← eM10] at hH
        refine lv_aload_n hx hb dX3_copyFrom_84 rfl (lv_at hl 0 rfl) ?_
        refine z_getr hX hH 0 5 18 rfl rfl flX3_copyFrom_40 dX3_copyFrom_85 ?_
        refine lv_aload_n hx hb dX3_copyFrom_88 rfl (lv_at hl 1 rfl) ?_
        refine z_getr hX hH 21 5 39 rfl rfl flX3_copyFrom_40 dX3_copyFrom_89 ?_
        obtain ⟨M12, c11, hF⟩ := zc_e hF
        obtain ⟨M13, eM13, hF⟩ := zl_e hF
        refine z_callVv (As := [.ref (α 39)]) hX hH 18 0 em_LSt2_is_18n3_39n3 (ctX0_copyFrom l D cs (zsb is_18n3_39n3 α) N (zpk is_18n3_39n3 M10)  M12 c11) (cwV 1 hts gX3_copyFrom_X0_copyFrom rfl rfl rfl (by decide +kernel) ⟨Nat.le_of_ble_eq_true rfl, Nat.le_of_ble_eq_true rfl⟩) rfl rfl rfl hl.1 (Nat.le_of_ble_eq_true rfl) rfl dX3_copyFrom_92 ⟨Nat.zero_le _, Nat.zero_le _⟩ (fun H locs hH => ?_)
        rw [← eM13] at hH
        exact z_vret hX hr hlocks hH hF dX3_copyFrom_95
      · have hF := zi_f hF hc
        refine lv_aload_n hx hb dX3_copyFrom_47 rfl (lv_at hl 1 rfl) ?_
        refine z_getr hX hH 21 3 29 rfl rfl flX3_copyFrom_27 dX3_copyFrom_48 ?_
        refine lv_iload_n hx hb dX3_copyFrom_51 rfl (lv_at hl 2 rfl) ?_
        obtain ⟨h14, hF⟩ := zg_e hF
        have h15 : x2.toNat < 7 := by have := h14.1; have := h14.2; omega
        refine z_aald (ts := [30, 31, 32, 33, 34, 35, 36]) hX hH 29 4 (30 + 1 * x2.toNat) rfl rfl rfl h14 (by decide) (ra_LSt2_30 x2.toNat h15) dX3_copyFrom_52 ?_
        refine z_iconst hx hb dX3_copyFrom_53 ?_
        refine lv_aload_n hx hb dX3_copyFrom_54 rfl (lv_at hl 0 rfl) ?_
        refine z_getr hX hH 0 3 8 rfl rfl flX3_copyFrom_27 dX3_copyFrom_55 ?_
        refine lv_iload_n hx hb dX3_copyFrom_58 rfl (lv_at hl 2 rfl) ?_
        refine z_aald (ts := [9, 10, 11, 12, 13, 14, 15]) hX hH 8 4 (9 + 1 * x2.toNat) rfl rfl rfl h14 (by decide) (ra_LSt2_9 x2.toNat h15) dX3_copyFrom_59 ?_
        refine z_iconst hx hb dX3_copyFrom_60 ?_
        refine z_sipush (v := 400) hx hb dX3_copyFrom_61 (by decide +kernel) ?_
        obtain ⟨M16, eM16, hF⟩ := zl_e hF
        refine z_copyi hX hH hl.1 (30 + 1 * x2.toNat) (9 + 1 * x2.toNat) eM16 (fm_LSt2_30_0 x2.toNat h15) (fm_LSt2_9_0 x2.toNat h15) (hts (.methodLink RX3 44 arraycopyName) (by decide +kernel)) (hts (.native arraycopyName) (by decide +kernel)) (hts (.static arraycopyName) (by decide +kernel)) (hts (.initialized "java/lang/System") (by decide +kernel)) (by decide) (by decide) (by decide) (Nat.le_of_ble_eq_true rfl) (Nat.le_of_ble_eq_true rfl) dX3_copyFrom_64 (fun H locs hH => ?_)
        obtain ⟨v17, ev17, hF⟩ := zl_e hF
        refine z_iinc ev17 (lv' := [(2, .int (nZ v17)), (0, .ref (α 0)), (1, .ref (α 21))]) hx hb dX3_copyFrom_67 hl (k := 2) rfl (by decide) rfl (fun ls hl => ?_)
        refine lv_goto (tgt := 41) hx hb dX3_copyFrom_70 (by decide) ?_
        exact hk41 v17 M16 hF _ _ _ hH (lv_sub hl [1, 2, 0] rfl)
  have hl : lv_has ls 3 [(0, .ref (α 0)), (1, .ref (α 21))] := hl
  unfold fX3_copyFrom at hF
  refine lv_aload_n hx hb dX3_copyFrom_0 rfl (lv_at hl 1 rfl) ?_
  refine z_getr hX hH 21 0 22 rfl rfl flX3_copyFrom_9 dX3_copyFrom_1 ?_
  refine z_iconst hx hb dX3_copyFrom_4 ?_
  refine lv_aload_n hx hb dX3_copyFrom_5 rfl (lv_at hl 0 rfl) ?_
  refine z_getr hX hH 0 0 1 rfl rfl flX3_copyFrom_9 dX3_copyFrom_6 ?_
  refine z_iconst hx hb dX3_copyFrom_9 ?_
  refine z_iconst hx hb dX3_copyFrom_10 ?_
  obtain ⟨M1, eM1, hF⟩ := zl_e hF
  refine z_copyi hX hH hl.1 22 1 eM1 rfl rfl (hts (.methodLink RX3 44 arraycopyName) (by decide +kernel)) (hts (.native arraycopyName) (by decide +kernel)) (hts (.static arraycopyName) (by decide +kernel)) (hts (.initialized "java/lang/System") (by decide +kernel)) (by decide) (by decide) (by decide) (Nat.le_of_ble_eq_true rfl) (Nat.le_of_ble_eq_true rfl) dX3_copyFrom_11 (fun H locs hH => ?_)
  refine lv_aload_n hx hb dX3_copyFrom_14 rfl (lv_at hl 1 rfl) ?_
  refine z_getr hX hH 21 1 23 rfl rfl flX3_copyFrom_15 dX3_copyFrom_15 ?_
  refine z_iconst hx hb dX3_copyFrom_18 ?_
  refine lv_aload_n hx hb dX3_copyFrom_19 rfl (lv_at hl 0 rfl) ?_
  refine z_getr hX hH 0 1 2 rfl rfl flX3_copyFrom_15 dX3_copyFrom_20 ?_
  refine z_iconst hx hb dX3_copyFrom_23 ?_
  refine z_iconst hx hb dX3_copyFrom_24 ?_
  obtain ⟨M2, eM2, hF⟩ := zl_e hF
  refine z_copyi hX hH hl.1 23 2 eM2 rfl rfl (hts (.methodLink RX3 44 arraycopyName) (by decide +kernel)) (hts (.native arraycopyName) (by decide +kernel)) (hts (.static arraycopyName) (by decide +kernel)) (hts (.initialized "java/lang/System") (by decide +kernel)) (by decide) (by decide) (by decide) (Nat.le_of_ble_eq_true rfl) (Nat.le_of_ble_eq_true rfl) dX3_copyFrom_25 (fun H locs hH => ?_)
  refine lv_aload_n hx hb dX3_copyFrom_28 rfl (lv_at hl 0 rfl) ?_
  refine z_getr hX hH 0 2 3 rfl rfl flX3_copyFrom_21 dX3_copyFrom_29 ?_
  refine lv_aload_n hx hb dX3_copyFrom_32 rfl (lv_at hl 1 rfl) ?_
  refine z_getr hX hH 21 2 24 rfl rfl flX3_copyFrom_21 dX3_copyFrom_33 ?_
  obtain ⟨M4, c3, hF⟩ := zc_e hF
  obtain ⟨M5, eM5, hF⟩ := zl_e hF
  refine z_callVv (As := [.ref (α 24)]) hX hH 3 2 em_LSt2_is_3n5_24n5 (ctX2_copyFrom l D cs (zsb is_3n5_24n5 α) N (zpk is_3n5_24n5 M2)  M4 c3) (cwV 1 hts gX3_copyFrom_X2_copyFrom rfl rfl rfl (by decide +kernel) ⟨Nat.le_of_ble_eq_true rfl, Nat.le_of_ble_eq_true rfl⟩) rfl rfl rfl hl.1 (Nat.le_of_ble_eq_true rfl) rfl dX3_copyFrom_36 ⟨Nat.zero_le _, Nat.zero_le _⟩ (fun H locs hH => ?_)
  rw [← eM5] at hH
  refine z_iconst hx hb dX3_copyFrom_39 ?_
  obtain ⟨v6, ev6, hF⟩ := zl_e hF
  refine z_istore_n ev6 (lv' := [(2, .int (nZ v6)), (0, .ref (α 0)), (1, .ref (α 21))]) hx hb dX3_copyFrom_40 rfl hl (by decide) rfl (fun ls hl => ?_)
  exact L41 N v6 M5 hF _ _ _ hH (lv_sub hl [1, 2, 0] rfl)
theorem flX3_isThing_27 : zF RX3 wsX3_isThing 27 3 3 := ⟨_, TX3, _, rfl, by decide +kernel, by decide +kernel, by decide, rfl⟩
set_option maxHeartbeats 4000000 in
set_option maxRecDepth 100000 in
theorem ctX3_isThing (l : Launch) (D : va_G) (cs : Nat → ClassId) (α : Nat → Nat) (N : Nat) (M : zM) (a1 : Int) (r : Int) (M' : zM) (hF : fX3_isThing N a1 M = some (r, M')) : Met l yX3_isThing wsX3_isThing ({ frames := 0, cells := 0, slots := 0, locals := 0 }) (zPre D cs LSt α M [.ref (α 0), .int (nZ a1)]) (zQi D cs LSt α r M') 0 0 (zA LSt.length α) := by
  refine z_met (cc := cX3_isThing) (maxL := 3) (ret := (some .boolean)) (by decide +kernel) rfl RX3 rfl (Nat.le_of_ble_eq_true rfl) ?_
  intro p e s m below meth c ls hX hr hlocks hH hl
  have hx := hX.1.1
  have hb := hX.1.2.1
  have hts := hX.1.2.2.2.2
  have J19 : ∀ (M0 : zM), sX3_isThing_19 N M0 = some (r, M') → zGo p l e (headSpec wsX3_isThing ({ frames := 0, cells := 0, slots := 0, locals := 0 })).room s m ([.ref (α 0), .int (nZ a1)] : List Value).toArray below meth c (MQ below (zQi D cs LSt α r M') ([.ref (α 0), .int (nZ a1)] : List Value).toArray s 0 0 (zA LSt.length α)) D cs LSt α (zA LSt.length α) 3 19 [] [] M0 := by
    intro M0 hF H locs ls hH hl
    unfold sX3_isThing_19 at hF
    refine z_iconst hx hb dX3_isThing_19 ?_
    refine lv_goto (tgt := 24) hx hb dX3_isThing_20 (by decide) ?_
    exact z_iret hX hr hlocks hH hF rfl dX3_isThing_24
  have hl : lv_has ls 3 [(0, .ref (α 0)), (1, .int (nZ a1))] := hl
  unfold fX3_isThing at hF
  refine lv_aload_n hx hb dX3_isThing_0 rfl (lv_at hl 0 rfl) ?_
  refine z_getr hX hH 0 3 8 rfl rfl flX3_isThing_27 dX3_isThing_1 ?_
  refine z_iconst hx hb dX3_isThing_4 ?_
  refine z_aald hX hH 8 4 9 rfl rfl rfl (by decide) (by decide) rfl dX3_isThing_5 ?_
  refine lv_iload_n hx hb dX3_isThing_6 rfl (lv_at hl 1 rfl) ?_
  obtain ⟨h1, hF⟩ := zg_e hF
  refine z_iald hX hH 9 400 rfl h1 (by decide) dX3_isThing_7 ?_
  obtain ⟨v2, ev2, hF⟩ := zl_e hF
  refine z_istore_n ev2 (lv' := [(2, .int (nZ v2)), (0, .ref (α 0)), (1, .int (nZ a1))]) hx hb dX3_isThing_8 rfl hl (by decide) rfl (fun ls hl => ?_)
  refine lv_iload_n hx hb dX3_isThing_9 rfl (lv_at hl 0 rfl) ?_
  refine z_iconst hx hb dX3_isThing_10 ?_
  obtain ⟨h3, hF⟩ := zg_e hF
  refine z_icmp_eq (tgt := 19) hx hb h3 (by decide) dX3_isThing_11 (by decide) (fun hc => ?_) (fun hc => ?_)
  · have hF := zi_t hF hc
    exact J19 M hF _ _ _ hH (lv_sub hl [] rfl)
  · have hF := zi_f hF hc
    refine lv_iload_n hx hb dX3_isThing_14 rfl (lv_at hl 0 rfl) ?_
    refine z_iconst hx hb dX3_isThing_15 ?_
    refine z_icmp_ne (tgt := 23) hx hb h3 (by decide) dX3_isThing_16 (by decide) (fun hc => ?_) (fun hc => ?_)
    · have hF := zi_f hF hc
      refine z_iconst hx hb dX3_isThing_23 ?_
      exact z_iret hX hr hlocks hH hF rfl dX3_isThing_24
    · have hF := zi_t hF hc
      exact J19 M hF _ _ _ hH (lv_sub hl [] rfl)
theorem flX3_thingCount_21 : zF RX3 wsX3_thingCount 21 3 2 := ⟨_, TX3, _, rfl, by decide +kernel, by decide +kernel, by decide, rfl⟩
theorem flX3_thingCount_60 : zF RX3 wsX3_thingCount 60 2 0 := ⟨_, TX2, _, rfl, by decide +kernel, by decide +kernel, by decide, rfl⟩
set_option maxHeartbeats 4000000 in
set_option maxRecDepth 100000 in
theorem ctX3_thingCount (l : Launch) (D : va_G) (cs : Nat → ClassId) (α : Nat → Nat) (N : Nat) (M : zM) (r : Int) (M' : zM) (hF : fX3_thingCount N M = some (r, M')) : Met l yX3_thingCount wsX3_thingCount ({ frames := 0, cells := 0, slots := 0, locals := 0 }) (zPre D cs LSt α M [.ref (α 0)]) (zQi D cs LSt α r M') 0 0 (zA LSt.length α) := by
  refine z_met (cc := cX3_thingCount) (maxL := 1) (ret := (some .int)) (by decide +kernel) rfl RX3 rfl (Nat.le_of_ble_eq_true rfl) ?_
  intro p e s m below meth c ls hX hr hlocks hH hl
  have hx := hX.1.1
  have hb := hX.1.2.1
  have hts := hX.1.2.2.2.2
  have hl : lv_has ls 1 [(0, .ref (α 0))] := hl
  unfold fX3_thingCount at hF
  refine lv_aload_n hx hb dX3_thingCount_0 rfl (lv_at hl 0 rfl) ?_
  refine z_getr hX hH 0 2 3 rfl rfl flX3_thingCount_21 dX3_thingCount_1 ?_
  refine z_getr hX hH 3 0 4 rfl rfl flX3_thingCount_60 dX3_thingCount_4 ?_
  refine z_iconst hx hb dX3_thingCount_7 ?_
  refine z_iald hX hH 4 5 rfl (by decide) (by decide) dX3_thingCount_8 ?_
  refine lv_aload_n hx hb dX3_thingCount_9 rfl (lv_at hl 0 rfl) ?_
  refine z_getr hX hH 0 2 3 rfl rfl flX3_thingCount_21 dX3_thingCount_10 ?_
  refine z_getr hX hH 3 0 4 rfl rfl flX3_thingCount_60 dX3_thingCount_13 ?_
  refine z_iconst hx hb dX3_thingCount_16 ?_
  refine z_iald hX hH 4 5 rfl (by decide) (by decide) dX3_thingCount_17 ?_
  refine z_iadd hx hb dX3_thingCount_18 ?_
  exact z_iret hX hr hlocks hH hF rfl dX3_thingCount_19
theorem flX3_weightOfThings_21 : zF RX3 wsX3_weightOfThings 21 3 2 := ⟨_, TX3, _, rfl, by decide +kernel, by decide +kernel, by decide, rfl⟩
theorem flX3_weightOfThings_63 : zF RX3 wsX3_weightOfThings 63 2 1 := ⟨_, TX2, _, rfl, by decide +kernel, by decide +kernel, by decide, rfl⟩
set_option maxHeartbeats 4000000 in
set_option maxRecDepth 100000 in
theorem ctX3_weightOfThings (l : Launch) (D : va_G) (cs : Nat → ClassId) (α : Nat → Nat) (N : Nat) (M : zM) (r : Int) (M' : zM) (hF : fX3_weightOfThings N M = some (r, M')) : Met l yX3_weightOfThings wsX3_weightOfThings ({ frames := 0, cells := 0, slots := 0, locals := 0 }) (zPre D cs LSt α M [.ref (α 0)]) (zQi D cs LSt α r M') 0 0 (zA LSt.length α) := by
  refine z_met (cc := cX3_weightOfThings) (maxL := 1) (ret := (some .int)) (by decide +kernel) rfl RX3 rfl (Nat.le_of_ble_eq_true rfl) ?_
  intro p e s m below meth c ls hX hr hlocks hH hl
  have hx := hX.1.1
  have hb := hX.1.2.1
  have hts := hX.1.2.2.2.2
  have hl : lv_has ls 1 [(0, .ref (α 0))] := hl
  unfold fX3_weightOfThings at hF
  refine lv_aload_n hx hb dX3_weightOfThings_0 rfl (lv_at hl 0 rfl) ?_
  refine z_getr hX hH 0 2 3 rfl rfl flX3_weightOfThings_21 dX3_weightOfThings_1 ?_
  refine z_getr hX hH 3 1 5 rfl rfl flX3_weightOfThings_63 dX3_weightOfThings_4 ?_
  refine z_iconst hx hb dX3_weightOfThings_7 ?_
  refine z_iald hX hH 5 5 rfl (by decide) (by decide) dX3_weightOfThings_8 ?_
  refine lv_aload_n hx hb dX3_weightOfThings_9 rfl (lv_at hl 0 rfl) ?_
  refine z_getr hX hH 0 2 3 rfl rfl flX3_weightOfThings_21 dX3_weightOfThings_10 ?_
  refine z_getr hX hH 3 1 5 rfl rfl flX3_weightOfThings_63 dX3_weightOfThings_13 ?_
  refine z_iconst hx hb dX3_weightOfThings_16 ?_
  refine z_iald hX hH 5 5 rfl (by decide) (by decide) dX3_weightOfThings_17 ?_
  refine z_iadd hx hb dX3_weightOfThings_18 ?_
  exact z_iret hX hr hlocks hH hF rfl dX3_weightOfThings_19
theorem flX3_placeOf_27 : zF RX3 wsX3_placeOf 27 3 3 := ⟨_, TX3, _, rfl, by decide +kernel, by decide +kernel, by decide, rfl⟩
theorem flX3_placeOf_21 : zF RX3 wsX3_placeOf 21 3 2 := ⟨_, TX3, _, rfl, by decide +kernel, by decide +kernel, by decide, rfl⟩
theorem em_LSt_is_3n5 : zemb LSt LQ is_3n5 = true := by decide +kernel
set_option maxHeartbeats 4000000 in
set_option maxRecDepth 100000 in
theorem ctX3_placeOf (l : Launch) (D : va_G) (cs : Nat → ClassId) (α : Nat → Nat) (N : Nat) (M : zM) (a1 : Int) (r : Int) (M' : zM) (hF : fX3_placeOf N a1 M = some (r, M')) : Met l yX3_placeOf wsX3_placeOf ({ frames := 2, cells := 0, slots := 0, locals := 45 }) (zPre D cs LSt α M [.ref (α 0), .int (nZ a1)]) (zQi D cs LSt α r M') 0 0 (zA LSt.length α) := by
  refine z_met (cc := cX3_placeOf) (maxL := 3) (ret := (some .int)) (by decide +kernel) rfl RX3 rfl (Nat.le_of_ble_eq_true rfl) ?_
  intro p e s m below meth c ls hX hr hlocks hH hl
  have hx := hX.1.1
  have hb := hX.1.2.1
  have hts := hX.1.2.2.2.2
  have hl : lv_has ls 3 [(0, .ref (α 0)), (1, .int (nZ a1))] := hl
  unfold fX3_placeOf at hF
  refine lv_aload_n hx hb dX3_placeOf_0 rfl (lv_at hl 0 rfl) ?_
  refine z_getr hX hH 0 3 8 rfl rfl flX3_placeOf_27 dX3_placeOf_1 ?_
  refine z_iconst hx hb dX3_placeOf_4 ?_
  refine z_aald hX hH 8 4 9 rfl rfl rfl (by decide) (by decide) rfl dX3_placeOf_5 ?_
  refine lv_iload_n hx hb dX3_placeOf_6 rfl (lv_at hl 1 rfl) ?_
  obtain ⟨h1, hF⟩ := zg_e hF
  refine z_iald hX hH 9 400 rfl h1 (by decide) dX3_placeOf_7 ?_
  obtain ⟨v2, ev2, hF⟩ := zl_e hF
  refine z_istore_n ev2 (lv' := [(2, .int (nZ v2)), (0, .ref (α 0)), (1, .int (nZ a1))]) hx hb dX3_placeOf_8 rfl hl (by decide) rfl (fun ls hl => ?_)
  refine lv_iload_n hx hb dX3_placeOf_9 rfl (lv_at hl 0 rfl) ?_
  obtain ⟨h3, hF⟩ := zg_e hF
  refine z_if_ne (tgt := 18) hx hb h3 dX3_placeOf_10 (by decide) (fun hc => ?_) (fun hc => ?_)
  · have hF := zi_f hF hc
    refine lv_aload_n hx hb dX3_placeOf_18 rfl (lv_at hl 1 rfl) ?_
    refine z_getr hX hH 0 2 3 rfl rfl flX3_placeOf_21 dX3_placeOf_19 ?_
    refine lv_iload_n hx hb dX3_placeOf_22 rfl (lv_at hl 0 rfl) ?_
    refine lv_iload_n hx hb dX3_placeOf_23 rfl (lv_at hl 2 rfl) ?_
    obtain ⟨r6, M5, c4, hF⟩ := zc2_e hF
    obtain ⟨M7, eM7, hF⟩ := zl_e hF
    refine z_callVi (As := [.int (nZ v2), .int (nZ a1)]) hX hH 3 2 em_LSt_is_3n5 (ctX2_placeOf l D cs (zsb is_3n5 α) N (zpk is_3n5 M) v2 a1 r6 M5 c4) (cwV 2 hts gX3_placeOf_X2_placeOf rfl rfl rfl (by decide +kernel) ⟨Nat.le_of_ble_eq_true rfl, Nat.le_of_ble_eq_true rfl⟩) rfl rfl rfl hl.1 (Nat.le_of_ble_eq_true rfl) rfl dX3_placeOf_24 ⟨Nat.zero_le _, Nat.zero_le _⟩ (fun H locs hH => ?_)
    rw [← eM7] at hH
    exact z_iret hX hr hlocks hH hF rfl dX3_placeOf_27
  · have hF := zi_t hF hc
    refine z_bipush (v := -5) hx hb dX3_placeOf_13 (by decide +kernel) ?_
    refine lv_goto (tgt := 27) hx hb dX3_placeOf_15 (by decide) ?_
    exact z_iret hX hr hlocks hH hF rfl dX3_placeOf_27
theorem flX3_move_27 : zF RX3 wsX3_move 27 3 3 := ⟨_, TX3, _, rfl, by decide +kernel, by decide +kernel, by decide, rfl⟩
theorem flX3_move_21 : zF RX3 wsX3_move 21 3 2 := ⟨_, TX3, _, rfl, by decide +kernel, by decide +kernel, by decide, rfl⟩
set_option maxHeartbeats 4000000 in
set_option maxRecDepth 100000 in
theorem ctX3_move (l : Launch) (D : va_G) (cs : Nat → ClassId) (α : Nat → Nat) (N : Nat) (M : zM) (a1 : Int) (a2 : Int) (M' : zM) (hF : fX3_move N a1 a2 M = some M') : Met l yX3_move wsX3_move ({ frames := 1, cells := 0, slots := 0, locals := 25 }) (zPre D cs LSt α M [.ref (α 0), .int (nZ a1), .int (nZ a2)]) (zQv D cs LSt α M') 0 0 (zA LSt.length α) := by
  refine z_met (cc := cX3_move) (maxL := 4) (ret := none) (by decide +kernel) rfl RX3 rfl (Nat.le_of_ble_eq_true rfl) ?_
  intro p e s m below meth c ls hX hr hlocks hH hl
  have hx := hX.1.1
  have hb := hX.1.2.1
  have hts := hX.1.2.2.2.2
  have J30 : ∀ (x1 : Int) (x2 : Int) (M0 : zM), sX3_move_30 N x1 x2 M0 = some M' → zGo p l e (headSpec wsX3_move ({ frames := 1, cells := 0, slots := 0, locals := 25 })).room s m ([.ref (α 0), .int (nZ a1), .int (nZ a2)] : List Value).toArray below meth c (MQ below (zQv D cs LSt α M') ([.ref (α 0), .int (nZ a1), .int (nZ a2)] : List Value).toArray s 0 0 (zA LSt.length α)) D cs LSt α (zA LSt.length α) 4 30 [(0, .ref (α 0)), (1, .int (nZ x1)), (2, .int (nZ x2))] [] M0 := by
    intro x1 x2 M0 hF H locs ls hH hl
    unfold sX3_move_30 at hF
    refine lv_aload_n hx hb dX3_move_30 rfl (lv_at hl 0 rfl) ?_
    refine z_getr hX hH 0 3 8 rfl rfl flX3_move_27 dX3_move_31 ?_
    refine z_iconst hx hb dX3_move_34 ?_
    refine z_aald hX hH 8 4 9 rfl rfl rfl (by decide) (by decide) rfl dX3_move_35 ?_
    refine lv_iload_n hx hb dX3_move_36 rfl (lv_at hl 1 rfl) ?_
    refine lv_iload_n hx hb dX3_move_37 rfl (lv_at hl 2 rfl) ?_
    obtain ⟨h4, hF⟩ := zg_e hF
    obtain ⟨M5, eM5, hF⟩ := zl_e hF
    refine z_iast hX hH 9 400 eM5 rfl h4 (by decide) dX3_move_38 (fun H locs hH => ?_)
    refine lv_iload_n hx hb dX3_move_39 rfl (lv_at hl 2 rfl) ?_
    obtain ⟨h6, hF⟩ := zg_e hF
    refine z_if_eq (tgt := 60) hx hb h6 dX3_move_40 (by decide) (fun hc => ?_) (fun hc => ?_)
    · have hF := zi_t hF hc
      exact z_vret hX hr hlocks hH hF dX3_move_60
    · have hF := zi_f hF hc
      refine lv_aload_n hx hb dX3_move_43 rfl (lv_at hl 0 rfl) ?_
      refine z_getr hX hH 0 2 3 rfl rfl flX3_move_21 dX3_move_44 ?_
      refine lv_iload_n hx hb dX3_move_47 rfl (lv_at hl 2 rfl) ?_
      refine lv_iload_n hx hb dX3_move_48 rfl (lv_at hl 1 rfl) ?_
      refine lv_aload_n hx hb dX3_move_49 rfl (lv_at hl 0 rfl) ?_
      refine z_getr hX hH 0 3 8 rfl rfl flX3_move_27 dX3_move_50 ?_
      refine z_iconst hx hb dX3_move_53 ?_
      refine z_aald hX hH 8 4 10 rfl rfl rfl (by decide) (by decide) rfl dX3_move_54 ?_
      refine lv_iload_n hx hb dX3_move_55 rfl (lv_at hl 1 rfl) ?_
      refine z_iald hX hH 10 400 rfl h4 (by decide) dX3_move_56 ?_
      obtain ⟨M8, c7, hF⟩ := zc_e hF
      obtain ⟨M9, eM9, hF⟩ := zl_e hF
      refine z_callVv (As := [.int (nZ x2), .int (nZ x1), .int (nZ (M5 10 x1.toNat))]) hX hH 3 2 em_LSt_is_3n5 (ctX2_add l D cs (zsb is_3n5 α) N (zpk is_3n5 M5) x2 x1 (M5 10 x1.toNat) M8 c7) (cwV 3 hts gX3_move_X2_add rfl rfl rfl (by decide +kernel) ⟨Nat.le_of_ble_eq_true rfl, Nat.le_of_ble_eq_true rfl⟩) rfl rfl rfl hl.1 (Nat.le_of_ble_eq_true rfl) rfl dX3_move_57 ⟨Nat.zero_le _, Nat.zero_le _⟩ (fun H locs hH => ?_)
      rw [← eM9] at hH
      exact z_vret hX hr hlocks hH hF dX3_move_60
  have hl : lv_has ls 4 [(0, .ref (α 0)), (1, .int (nZ a1)), (2, .int (nZ a2))] := hl
  unfold fX3_move at hF
  refine lv_aload_n hx hb dX3_move_0 rfl (lv_at hl 0 rfl) ?_
  refine z_getr hX hH 0 3 8 rfl rfl flX3_move_27 dX3_move_1 ?_
  refine z_iconst hx hb dX3_move_4 ?_
  refine z_aald hX hH 8 4 9 rfl rfl rfl (by decide) (by decide) rfl dX3_move_5 ?_
  refine lv_iload_n hx hb dX3_move_6 rfl (lv_at hl 1 rfl) ?_
  obtain ⟨h1, hF⟩ := zg_e hF
  refine z_iald hX hH 9 400 rfl h1 (by decide) dX3_move_7 ?_
  obtain ⟨v2, ev2, hF⟩ := zl_e hF
  refine z_istore_n ev2 (lv' := [(3, .int (nZ v2)), (0, .ref (α 0)), (1, .int (nZ a1)), (2, .int (nZ a2))]) hx hb dX3_move_8 rfl hl (by decide) rfl (fun ls hl => ?_)
  refine lv_iload_n hx hb dX3_move_9 rfl (lv_at hl 0 rfl) ?_
  obtain ⟨h3, hF⟩ := zg_e hF
  refine z_if_eq (tgt := 30) hx hb h3 dX3_move_10 (by decide) (fun hc => ?_) (fun hc => ?_)
  · have hF := zi_t hF hc
    exact J30 a1 a2 M hF _ _ _ hH (lv_sub hl [1, 2, 3] rfl)
  · have hF := zi_f hF hc
    refine lv_aload_n hx hb dX3_move_13 rfl (lv_at hl 1 rfl) ?_
    refine z_getr hX hH 0 2 3 rfl rfl flX3_move_21 dX3_move_14 ?_
    refine lv_iload_n hx hb dX3_move_17 rfl (lv_at hl 0 rfl) ?_
    refine lv_iload_n hx hb dX3_move_18 rfl (lv_at hl 2 rfl) ?_
    refine lv_aload_n hx hb dX3_move_19 rfl (lv_at hl 1 rfl) ?_
    refine z_getr hX hH 0 3 8 rfl rfl flX3_move_27 dX3_move_20 ?_
    refine z_iconst hx hb dX3_move_23 ?_
    refine z_aald hX hH 8 4 10 rfl rfl rfl (by decide) (by decide) rfl dX3_move_24 ?_
    refine lv_iload_n hx hb dX3_move_25 rfl (lv_at hl 2 rfl) ?_
    refine z_iald hX hH 10 400 rfl h1 (by decide) dX3_move_26 ?_
    obtain ⟨M11, c10, hF⟩ := zc_e hF
    obtain ⟨M12, eM12, hF⟩ := zl_e hF
    refine z_callVv (As := [.int (nZ v2), .int (nZ a1), .int (nZ (M 10 a1.toNat))]) hX hH 3 2 em_LSt_is_3n5 (ctX2_remove l D cs (zsb is_3n5 α) N (zpk is_3n5 M) v2 a1 (M 10 a1.toNat) M11 c10) (cwV 3 hts gX3_move_X2_remove rfl rfl rfl (by decide +kernel) ⟨Nat.le_of_ble_eq_true rfl, Nat.le_of_ble_eq_true rfl⟩) rfl rfl rfl hl.1 (Nat.le_of_ble_eq_true rfl) rfl dX3_move_27 ⟨Nat.zero_le _, Nat.zero_le _⟩ (fun H locs hH => ?_)
    rw [← eM12] at hH
    exact J30 a1 a2 M12 hF _ _ _ hH (lv_sub hl [1, 2, 3] rfl)
theorem flX3_hit_27 : zF RX3 wsX3_hit 27 3 3 := ⟨_, TX3, _, rfl, by decide +kernel, by decide +kernel, by decide, rfl⟩
theorem flX3_hit_9 : zF RX3 wsX3_hit 9 3 0 := ⟨_, TX3, _, rfl, by decide +kernel, by decide +kernel, by decide, rfl⟩
set_option maxHeartbeats 4000000 in
set_option maxRecDepth 100000 in
theorem ctX3_hit (l : Launch) (D : va_G) (cs : Nat → ClassId) (α : Nat → Nat) (N : Nat) (M : zM) (a1 : Int) (M' : zM) (hF : fX3_hit N a1 M = some M') : Met l yX3_hit wsX3_hit ({ frames := 2, cells := 0, slots := 0, locals := 48 }) (zPre D cs LSt α M [.ref (α 0), .int (nZ a1)]) (zQv D cs LSt α M') 0 0 (zA LSt.length α) := by
  refine z_met (cc := cX3_hit) (maxL := 4) (ret := none) (by decide +kernel) rfl RX3 rfl (Nat.le_of_ble_eq_true rfl) ?_
  intro p e s m below meth c ls hX hr hlocks hH hl
  have hx := hX.1.1
  have hb := hX.1.2.1
  have hts := hX.1.2.2.2.2
  have J71 : ∀ (y0 : Int) (y1 : Int) (M0 : zM), sX3_hit_71 N y0 y1 M0 = some M' → zGo p l e (headSpec wsX3_hit ({ frames := 2, cells := 0, slots := 0, locals := 48 })).room s m ([.ref (α 0), .int (nZ a1)] : List Value).toArray below meth c (MQ below (zQv D cs LSt α M') ([.ref (α 0), .int (nZ a1)] : List Value).toArray s 0 0 (zA LSt.length α)) D cs LSt α (zA LSt.length α) 4 71 [] [.int (nZ y0), .int (nZ y1), .ref (α 0)] M0 := by
    intro y0 y1 M0 hF H locs ls hH hl
    unfold sX3_hit_71 at hF
    obtain ⟨M9, c8, hF⟩ := zc_e hF
    refine z_sameVv (As := [.int (nZ y1), .int (nZ y0)]) hX hH 0 3 (ctX3_move l D cs α N M0 y1 y0 M9 c8) (cwV 2 hts gX3_hit_X3_move rfl rfl rfl (by decide +kernel) ⟨Nat.le_of_ble_eq_true rfl, Nat.le_of_ble_eq_true rfl⟩) rfl rfl rfl hl.1 (Nat.le_of_ble_eq_true rfl) rfl dX3_hit_71 ⟨Nat.zero_le _, Nat.zero_le _⟩ (fun H locs hH => ?_)
    exact z_vret hX hr hlocks hH hF dX3_hit_74
  have J59 : ∀ (x1 : Int) (x2 : Int) (y0 : Int) (M0 : zM), sX3_hit_59 N x1 x2 y0 M0 = some M' → zGo p l e (headSpec wsX3_hit ({ frames := 2, cells := 0, slots := 0, locals := 48 })).room s m ([.ref (α 0), .int (nZ a1)] : List Value).toArray below meth c (MQ below (zQv D cs LSt α M') ([.ref (α 0), .int (nZ a1)] : List Value).toArray s 0 0 (zA LSt.length α)) D cs LSt α (zA LSt.length α) 4 59 [(0, .ref (α 0)), (1, .int (nZ x1)), (2, .int (nZ x2))] [.int (nZ y0)] M0 := by
    intro x1 x2 y0 M0 hF H locs ls hH hl
    unfold sX3_hit_59 at hF
    obtain ⟨v6, ev6, hF⟩ := zl_e hF
    refine z_istore_n ev6 (lv' := [(3, .int (nZ v6)), (0, .ref (α 0)), (1, .int (nZ x1)), (2, .int (nZ x2))]) hx hb dX3_hit_59 rfl hl (by decide) rfl (fun ls hl => ?_)
    refine lv_aload_n hx hb dX3_hit_60 rfl (lv_at hl 1 rfl) ?_
    refine lv_iload_n hx hb dX3_hit_61 rfl (lv_at hl 2 rfl) ?_
    refine lv_iload_n hx hb dX3_hit_62 rfl (lv_at hl 0 rfl) ?_
    obtain ⟨h7, hF⟩ := zg_e hF
    refine z_if_eq (tgt := 70) hx hb h7 dX3_hit_63 (by decide) (fun hc => ?_) (fun hc => ?_)
    · have hF := zi_t hF hc
      refine lv_iload_n hx hb dX3_hit_70 rfl (lv_at hl 3 rfl) ?_
      exact J71 x2 x1 M0 hF _ _ _ hH (lv_sub hl [] rfl)
    · have hF := zi_f hF hc
      refine z_iconst hx hb dX3_hit_66 ?_
      refine lv_goto (tgt := 71) hx hb dX3_hit_67 (by decide) ?_
      exact J71 (2:Int) x1 M0 hF _ _ _ hH (lv_sub hl [] rfl)
  have J58 : ∀ (x1 : Int) (x2 : Int) (M0 : zM), sX3_hit_58 N x1 x2 M0 = some M' → zGo p l e (headSpec wsX3_hit ({ frames := 2, cells := 0, slots := 0, locals := 48 })).room s m ([.ref (α 0), .int (nZ a1)] : List Value).toArray below meth c (MQ below (zQv D cs LSt α M') ([.ref (α 0), .int (nZ a1)] : List Value).toArray s 0 0 (zA LSt.length α)) D cs LSt α (zA LSt.length α) 4 58 [(0, .ref (α 0)), (1, .int (nZ x1)), (2, .int (nZ x2))] [] M0 := by
    intro x1 x2 M0 hF H locs ls hH hl
    unfold sX3_hit_58 at hF
    refine z_iconst hx hb dX3_hit_58 ?_
    exact J59 x1 x2 (0:Int) M0 hF _ _ _ hH (lv_sub hl [0, 1, 2] rfl)
  have hl : lv_has ls 4 [(0, .ref (α 0)), (1, .int (nZ a1))] := hl
  unfold fX3_hit at hF
  refine lv_aload_n hx hb dX3_hit_0 rfl (lv_at hl 0 rfl) ?_
  refine z_getr hX hH 0 3 8 rfl rfl flX3_hit_27 dX3_hit_1 ?_
  refine z_iconst hx hb dX3_hit_4 ?_
  refine z_aald hX hH 8 4 9 rfl rfl rfl (by decide) (by decide) rfl dX3_hit_5 ?_
  refine lv_iload_n hx hb dX3_hit_6 rfl (lv_at hl 1 rfl) ?_
  obtain ⟨h1, hF⟩ := zg_e hF
  refine z_iald hX hH 9 400 rfl h1 (by decide) dX3_hit_7 ?_
  obtain ⟨v2, ev2, hF⟩ := zl_e hF
  refine z_istore_n ev2 (lv' := [(2, .int (nZ v2)), (0, .ref (α 0)), (1, .int (nZ a1))]) hx hb dX3_hit_8 rfl hl (by decide) rfl (fun ls hl => ?_)
  refine lv_aload_n hx hb dX3_hit_9 rfl (lv_at hl 1 rfl) ?_
  refine z_getr hX hH 0 3 8 rfl rfl flX3_hit_27 dX3_hit_10 ?_
  refine z_iconst hx hb dX3_hit_13 ?_
  refine z_aald hX hH 8 4 12 rfl rfl rfl (by decide) (by decide) rfl dX3_hit_14 ?_
  refine lv_iload_n hx hb dX3_hit_15 rfl (lv_at hl 2 rfl) ?_
  refine lv_aload_n hx hb dX3_hit_16 rfl (lv_at hl 1 rfl) ?_
  refine z_getr hX hH 0 3 8 rfl rfl flX3_hit_27 dX3_hit_17 ?_
  refine z_iconst hx hb dX3_hit_20 ?_
  refine z_aald hX hH 8 4 12 rfl rfl rfl (by decide) (by decide) rfl dX3_hit_21 ?_
  refine lv_iload_n hx hb dX3_hit_22 rfl (lv_at hl 2 rfl) ?_
  refine z_iald hX hH 12 400 rfl h1 (by decide) dX3_hit_23 ?_
  refine z_iconst hx hb dX3_hit_24 ?_
  refine z_iadd hx hb dX3_hit_25 ?_
  refine z_bipush (v := 99) hx hb dX3_hit_26 (by decide +kernel) ?_
  obtain ⟨h3, hF⟩ := zg_e hF
  refine z_min hX hl.1 (hts (.methodLink RX3 104 Lib.Math.min.name) (by decide +kernel)) (hts (.static Lib.Math.min.name) (by decide +kernel)) (hts (.initialized "java/lang/Math") (by decide +kernel)) (hts (.code Lib.Math.min.name Lib.Math.min.code 2 (some .int)) (by decide +kernel)) (Nat.le_of_ble_eq_true rfl) (Nat.le_of_ble_eq_true rfl) h3 (by decide) dX3_hit_28 ?_
  obtain ⟨M4, eM4, hF⟩ := zl_e hF
  refine z_iast hX hH 12 400 eM4 rfl h1 (by decide) dX3_hit_31 (fun H locs hH => ?_)
  refine lv_iload_n hx hb dX3_hit_32 rfl (lv_at hl 0 rfl) ?_
  refine z_iconst hx hb dX3_hit_33 ?_
  obtain ⟨h5, hF⟩ := zg_e hF
  refine z_icmp_ne (tgt := 58) hx hb h5 (by decide) dX3_hit_34 (by decide) (fun hc => ?_) (fun hc => ?_)
  · have hF := zi_f hF hc
    exact J58 a1 v2 M4 hF _ _ _ hH (lv_sub hl [1, 2, 0] rfl)
  · have hF := zi_t hF hc
    refine lv_aload_n hx hb dX3_hit_37 rfl (lv_at hl 1 rfl) ?_
    refine z_getr hX hH 0 3 8 rfl rfl flX3_hit_27 dX3_hit_38 ?_
    refine z_iconst hx hb dX3_hit_41 ?_
    refine z_aald hX hH 8 4 12 rfl rfl rfl (by decide) (by decide) rfl dX3_hit_42 ?_
    refine lv_iload_n hx hb dX3_hit_43 rfl (lv_at hl 2 rfl) ?_
    refine z_iald hX hH 12 400 rfl h1 (by decide) dX3_hit_44 ?_
    refine lv_aload_n hx hb dX3_hit_45 rfl (lv_at hl 1 rfl) ?_
    refine z_getr hX hH 0 0 1 rfl rfl flX3_hit_9 dX3_hit_46 ?_
    refine z_iconst hx hb dX3_hit_49 ?_
    refine z_iald hX hH 1 4 rfl (by decide) (by decide) dX3_hit_50 ?_
    obtain ⟨h10, hF⟩ := zg_e hF
    obtain ⟨h11, hF⟩ := zg_e hF
    refine z_icmp_lt (tgt := 58) hx hb h10 h11 dX3_hit_51 (by decide) (fun hc => ?_) (fun hc => ?_)
    · have hF := zi_t hF hc
      exact J58 a1 v2 M4 hF _ _ _ hH (lv_sub hl [1, 2, 0] rfl)
    · have hF := zi_f hF hc
      refine z_iconst hx hb dX3_hit_54 ?_
      refine lv_goto (tgt := 59) hx hb dX3_hit_55 (by decide) ?_
      exact J59 a1 v2 (1:Int) M4 hF _ _ _ hH (lv_sub hl [1, 2, 0] rfl)
theorem flX3_replace_21 : zF RX3 wsX3_replace 21 3 2 := ⟨_, TX3, _, rfl, by decide +kernel, by decide +kernel, by decide, rfl⟩
theorem flX3_replace_63 : zF RX3 wsX3_replace 63 2 1 := ⟨_, TX2, _, rfl, by decide +kernel, by decide +kernel, by decide, rfl⟩
theorem flX3_replace_27 : zF RX3 wsX3_replace 27 3 3 := ⟨_, TX3, _, rfl, by decide +kernel, by decide +kernel, by decide, rfl⟩
set_option maxHeartbeats 4000000 in
set_option maxRecDepth 100000 in
theorem ctX3_replace (l : Launch) (D : va_G) (cs : Nat → ClassId) (α : Nat → Nat) (N : Nat) (M : zM) (a1 : Int) (a2 : Int) (a3 : Int) (a4 : Int) (M' : zM) (hF : fX3_replace N a1 a2 a3 a4 M = some M') : Met l yX3_replace wsX3_replace ({ frames := 3, cells := 0, slots := 0, locals := 71 }) (zPre D cs LSt α M [.ref (α 0), .int (nZ a1), .int (nZ a2), .int (nZ a3), .int (nZ a4)]) (zQv D cs LSt α M') 0 0 (zA LSt.length α) := by
  refine z_met (cc := cX3_replace) (maxL := 5) (ret := none) (by decide +kernel) rfl RX3 rfl (Nat.le_of_ble_eq_true rfl) ?_
  intro p e s m below meth c ls hX hr hlocks hH hl
  have hx := hX.1.1
  have hb := hX.1.2.1
  have hts := hX.1.2.2.2.2
  have hl : lv_has ls 5 [(0, .ref (α 0)), (1, .int (nZ a1)), (2, .int (nZ a2)), (3, .int (nZ a3)), (4, .int (nZ a4))] := hl
  unfold fX3_replace at hF
  refine lv_aload_n hx hb dX3_replace_0 rfl (lv_at hl 0 rfl) ?_
  refine z_getr hX hH 0 2 3 rfl rfl flX3_replace_21 dX3_replace_1 ?_
  refine z_getr hX hH 3 1 5 rfl rfl flX3_replace_63 dX3_replace_4 ?_
  refine lv_aload_n hx hb dX3_replace_7 rfl (lv_at hl 0 rfl) ?_
  refine z_getr hX hH 0 3 8 rfl rfl flX3_replace_27 dX3_replace_8 ?_
  refine z_iconst hx hb dX3_replace_11 ?_
  refine z_aald hX hH 8 4 9 rfl rfl rfl (by decide) (by decide) rfl dX3_replace_12 ?_
  refine lv_iload_n hx hb dX3_replace_13 rfl (lv_at hl 1 rfl) ?_
  obtain ⟨h1, hF⟩ := zg_e hF
  refine z_iald hX hH 9 400 rfl h1 (by decide) dX3_replace_14 ?_
  refine lv_dup2_11 hx hb dX3_replace_15 rfl rfl ?_
  obtain ⟨h2, hF⟩ := zg_e hF
  refine z_iald hX hH 5 5 rfl h2 (by decide) dX3_replace_16 ?_
  refine lv_iload_n hx hb dX3_replace_17 rfl (lv_at hl 3 rfl) ?_
  refine lv_aload_n hx hb dX3_replace_18 rfl (lv_at hl 0 rfl) ?_
  refine z_getr hX hH 0 3 8 rfl rfl flX3_replace_27 dX3_replace_19 ?_
  refine z_iconst hx hb dX3_replace_22 ?_
  refine z_aald hX hH 8 4 10 rfl rfl rfl (by decide) (by decide) rfl dX3_replace_23 ?_
  refine lv_iload_n hx hb dX3_replace_24 rfl (lv_at hl 1 rfl) ?_
  refine z_iald hX hH 10 400 rfl h1 (by decide) dX3_replace_25 ?_
  refine z_isub hx hb dX3_replace_26 ?_
  refine z_iadd hx hb dX3_replace_27 ?_
  obtain ⟨M3, eM3, hF⟩ := zl_e hF
  refine z_iast hX hH 5 5 eM3 rfl h2 (by decide) dX3_replace_28 (fun H locs hH => ?_)
  refine lv_aload_n hx hb dX3_replace_29 rfl (lv_at hl 0 rfl) ?_
  refine z_getr hX hH 0 3 8 rfl rfl flX3_replace_27 dX3_replace_30 ?_
  refine z_bipush (v := 6) hx hb dX3_replace_33 (by decide +kernel) ?_
  refine z_aald hX hH 8 4 15 rfl rfl rfl (by decide) (by decide) rfl dX3_replace_35 ?_
  refine lv_iload_n hx hb dX3_replace_36 rfl (lv_at hl 1 rfl) ?_
  refine lv_iload_n hx hb dX3_replace_37 rfl (lv_at hl 2 rfl) ?_
  obtain ⟨M4, eM4, hF⟩ := zl_e hF
  refine z_iast hX hH 15 400 eM4 rfl h1 (by decide) dX3_replace_38 (fun H locs hH => ?_)
  refine lv_aload_n hx hb dX3_replace_39 rfl (lv_at hl 0 rfl) ?_
  refine z_getr hX hH 0 3 8 rfl rfl flX3_replace_27 dX3_replace_40 ?_
  refine z_iconst hx hb dX3_replace_43 ?_
  refine z_aald hX hH 8 4 10 rfl rfl rfl (by decide) (by decide) rfl dX3_replace_44 ?_
  refine lv_iload_n hx hb dX3_replace_45 rfl (lv_at hl 1 rfl) ?_
  refine lv_iload_n hx hb dX3_replace_46 rfl (lv_at hl 3 rfl) ?_
  obtain ⟨M5, eM5, hF⟩ := zl_e hF
  refine z_iast hX hH 10 400 eM5 rfl h1 (by decide) dX3_replace_47 (fun H locs hH => ?_)
  refine lv_aload_n hx hb dX3_replace_48 rfl (lv_at hl 0 rfl) ?_
  refine z_getr hX hH 0 3 8 rfl rfl flX3_replace_27 dX3_replace_49 ?_
  refine z_iconst hx hb dX3_replace_52 ?_
  refine z_aald hX hH 8 4 11 rfl rfl rfl (by decide) (by decide) rfl dX3_replace_53 ?_
  refine lv_iload_n hx hb dX3_replace_54 rfl (lv_at hl 1 rfl) ?_
  refine lv_iload hx hb dX3_replace_55 (lv_at hl 4 rfl) ?_
  obtain ⟨M6, eM6, hF⟩ := zl_e hF
  refine z_iast hX hH 11 400 eM6 rfl h1 (by decide) dX3_replace_57 (fun H locs hH => ?_)
  refine lv_aload_n hx hb dX3_replace_58 rfl (lv_at hl 0 rfl) ?_
  refine lv_iload_n hx hb dX3_replace_59 rfl (lv_at hl 1 rfl) ?_
  obtain ⟨M8, c7, hF⟩ := zc_e hF
  refine z_sameVv (As := [.int (nZ a1)]) hX hH 0 3 (ctX3_hit l D cs α N M6 a1 M8 c7) (cwV 1 hts gX3_replace_X3_hit rfl rfl rfl (by decide +kernel) ⟨Nat.le_of_ble_eq_true rfl, Nat.le_of_ble_eq_true rfl⟩) rfl rfl rfl hl.1 (Nat.le_of_ble_eq_true rfl) rfl dX3_replace_60 ⟨Nat.zero_le _, Nat.zero_le _⟩ (fun H locs hH => ?_)
  exact z_vret hX hr hlocks hH hF dX3_replace_63
theorem flX3_admit_27 : zF RX3 wsX3_admit 27 3 3 := ⟨_, TX3, _, rfl, by decide +kernel, by decide +kernel, by decide, rfl⟩
theorem flX3_admit_15 : zF RX3 wsX3_admit 15 3 1 := ⟨_, TX3, _, rfl, by decide +kernel, by decide +kernel, by decide, rfl⟩
theorem flX3_admit_9 : zF RX3 wsX3_admit 9 3 0 := ⟨_, TX3, _, rfl, by decide +kernel, by decide +kernel, by decide, rfl⟩
set_option maxHeartbeats 4000000 in
set_option maxRecDepth 100000 in
theorem ctX3_admit (l : Launch) (D : va_G) (cs : Nat → ClassId) (α : Nat → Nat) (N : Nat) (M : zM) (a1 : Int) (a2 : Int) (a3 : Int) (a4 : Int) (M' : zM) (hF : fX3_admit N a1 a2 a3 a4 M = some M') : Met l yX3_admit wsX3_admit ({ frames := 2, cells := 0, slots := 0, locals := 48 }) (zPre D cs LSt α M [.ref (α 0), .int (nZ a1), .int (nZ a2), .int (nZ a3), .int (nZ a4)]) (zQv D cs LSt α M') 0 0 (zA LSt.length α) := by
  refine z_met (cc := cX3_admit) (maxL := 6) (ret := none) (by decide +kernel) rfl RX3 rfl (Nat.le_of_ble_eq_true rfl) ?_
  intro p e s m below meth c ls hX hr hlocks hH hl
  have hx := hX.1.1
  have hb := hX.1.2.1
  have hts := hX.1.2.2.2.2
  have J165 : ∀ (y0 : Int) (y1 : Int) (M0 : zM), sX3_admit_165 N y0 y1 M0 = some M' → zGo p l e (headSpec wsX3_admit ({ frames := 2, cells := 0, slots := 0, locals := 48 })).room s m ([.ref (α 0), .int (nZ a1), .int (nZ a2), .int (nZ a3), .int (nZ a4)] : List Value).toArray below meth c (MQ below (zQv D cs LSt α M') ([.ref (α 0), .int (nZ a1), .int (nZ a2), .int (nZ a3), .int (nZ a4)] : List Value).toArray s 0 0 (zA LSt.length α)) D cs LSt α (zA LSt.length α) 6 165 [] [.int (nZ y0), .int (nZ y1), .ref (α 0)] M0 := by
    intro y0 y1 M0 hF H locs ls hH hl
    unfold sX3_admit_165 at hF
    obtain ⟨M19, c18, hF⟩ := zc_e hF
    refine z_sameVv (As := [.int (nZ y1), .int (nZ y0)]) hX hH 0 3 (ctX3_move l D cs α N M0 y1 y0 M19 c18) (cwV 2 hts gX3_admit_X3_move rfl rfl rfl (by decide +kernel) ⟨Nat.le_of_ble_eq_true rfl, Nat.le_of_ble_eq_true rfl⟩) rfl rfl rfl hl.1 (Nat.le_of_ble_eq_true rfl) rfl dX3_admit_165 ⟨Nat.zero_le _, Nat.zero_le _⟩ (fun H locs hH => ?_)
    exact z_vret hX hr hlocks hH hF dX3_admit_168
  have J143 : ∀ (x1 : Int) (x5 : Int) (y0 : Int) (y1 : Int) (M0 : zM), sX3_admit_143 N x1 x5 y0 y1 M0 = some M' → zGo p l e (headSpec wsX3_admit ({ frames := 2, cells := 0, slots := 0, locals := 48 })).room s m ([.ref (α 0), .int (nZ a1), .int (nZ a2), .int (nZ a3), .int (nZ a4)] : List Value).toArray below meth c (MQ below (zQv D cs LSt α M') ([.ref (α 0), .int (nZ a1), .int (nZ a2), .int (nZ a3), .int (nZ a4)] : List Value).toArray s 0 0 (zA LSt.length α)) D cs LSt α (zA LSt.length α) 6 143 [(0, .ref (α 0)), (1, .int (nZ x1)), (5, .int (nZ x5))] [.int (nZ y0), .int (nZ y1), .ref (α 13)] M0 := by
    intro x1 x5 y0 y1 M0 hF H locs ls hH hl
    unfold sX3_admit_143 at hF
    obtain ⟨h13, hF⟩ := zg_e hF
    obtain ⟨M14, eM14, hF⟩ := zl_e hF
    refine z_iast hX hH 13 400 eM14 rfl h13 (by decide) dX3_admit_143 (fun H locs hH => ?_)
    refine lv_aload_n hx hb dX3_admit_144 rfl (lv_at hl 0 rfl) ?_
    refine z_getr hX hH 0 3 8 rfl rfl flX3_admit_27 dX3_admit_145 ?_
    refine z_iconst hx hb dX3_admit_148 ?_
    refine z_aald hX hH 8 4 14 rfl rfl rfl (by decide) (by decide) rfl dX3_admit_149 ?_
    refine lv_iload_n hx hb dX3_admit_150 rfl (lv_at hl 1 rfl) ?_
    refine z_iconst hx hb dX3_admit_151 ?_
    obtain ⟨h15, hF⟩ := zg_e hF
    obtain ⟨M16, eM16, hF⟩ := zl_e hF
    refine z_iast hX hH 14 400 eM16 rfl h15 (by decide) dX3_admit_152 (fun H locs hH => ?_)
    refine lv_aload_n hx hb dX3_admit_153 rfl (lv_at hl 0 rfl) ?_
    refine lv_iload_n hx hb dX3_admit_154 rfl (lv_at hl 1 rfl) ?_
    refine lv_iload hx hb dX3_admit_155 (lv_at hl 2 rfl) ?_
    obtain ⟨h17, hF⟩ := zg_e hF
    refine z_if_ne (tgt := 164) hx hb h17 dX3_admit_157 (by decide) (fun hc => ?_) (fun hc => ?_)
    · have hF := zi_f hF hc
      refine z_iconst hx hb dX3_admit_164 ?_
      exact J165 (2:Int) x1 M16 hF _ _ _ hH (lv_sub hl [] rfl)
    · have hF := zi_t hF hc
      refine z_iconst hx hb dX3_admit_160 ?_
      refine lv_goto (tgt := 165) hx hb dX3_admit_161 (by decide) ?_
      exact J165 (1:Int) x1 M16 hF _ _ _ hH (lv_sub hl [] rfl)
  have J72 : ∀ (x1 : Int) (x2 : Int) (x3 : Int) (x4 : Int) (x5 : Int) (M0 : zM), sX3_admit_72 N x1 x2 x3 x4 x5 M0 = some M' → zGo p l e (headSpec wsX3_admit ({ frames := 2, cells := 0, slots := 0, locals := 48 })).room s m ([.ref (α 0), .int (nZ a1), .int (nZ a2), .int (nZ a3), .int (nZ a4)] : List Value).toArray below meth c (MQ below (zQv D cs LSt α M') ([.ref (α 0), .int (nZ a1), .int (nZ a2), .int (nZ a3), .int (nZ a4)] : List Value).toArray s 0 0 (zA LSt.length α)) D cs LSt α (zA LSt.length α) 6 72 [(0, .ref (α 0)), (1, .int (nZ x1)), (2, .int (nZ x2)), (3, .int (nZ x3)), (4, .int (nZ x4)), (5, .int (nZ x5))] [] M0 := by
    intro x1 x2 x3 x4 x5 M0 hF H locs ls hH hl
    unfold sX3_admit_72 at hF
    refine lv_aload_n hx hb dX3_admit_72 rfl (lv_at hl 0 rfl) ?_
    refine z_getr hX hH 0 1 2 rfl rfl flX3_admit_15 dX3_admit_73 ?_
    refine z_iconst hx hb dX3_admit_76 ?_
    refine lv_dup2_11 hx hb dX3_admit_77 rfl rfl ?_
    refine z_iald hX hH 2 5 rfl (by decide) (by decide) dX3_admit_78 ?_
    refine lv_iload hx hb dX3_admit_79 (lv_at hl 4 rfl) ?_
    refine z_iadd hx hb dX3_admit_81 ?_
    obtain ⟨M6, eM6, hF⟩ := zl_e hF
    refine z_iast hX hH 2 5 eM6 rfl (by decide) (by decide) dX3_admit_82 (fun H locs hH => ?_)
    refine lv_aload_n hx hb dX3_admit_83 rfl (lv_at hl 0 rfl) ?_
    refine z_getr hX hH 0 3 8 rfl rfl flX3_admit_27 dX3_admit_84 ?_
    refine z_bipush (v := 6) hx hb dX3_admit_87 (by decide +kernel) ?_
    refine z_aald hX hH 8 4 15 rfl rfl rfl (by decide) (by decide) rfl dX3_admit_89 ?_
    refine lv_iload_n hx hb dX3_admit_90 rfl (lv_at hl 1 rfl) ?_
    refine lv_iload_n hx hb dX3_admit_91 rfl (lv_at hl 2 rfl) ?_
    obtain ⟨h7, hF⟩ := zg_e hF
    obtain ⟨M8, eM8, hF⟩ := zl_e hF
    refine z_iast hX hH 15 400 eM8 rfl h7 (by decide) dX3_admit_92 (fun H locs hH => ?_)
    refine lv_aload_n hx hb dX3_admit_93 rfl (lv_at hl 0 rfl) ?_
    refine z_getr hX hH 0 3 8 rfl rfl flX3_admit_27 dX3_admit_94 ?_
    refine z_iconst hx hb dX3_admit_97 ?_
    refine z_aald hX hH 8 4 10 rfl rfl rfl (by decide) (by decide) rfl dX3_admit_98 ?_
    refine lv_iload_n hx hb dX3_admit_99 rfl (lv_at hl 1 rfl) ?_
    refine lv_iload_n hx hb dX3_admit_100 rfl (lv_at hl 3 rfl) ?_
    obtain ⟨M9, eM9, hF⟩ := zl_e hF
    refine z_iast hX hH 10 400 eM9 rfl h7 (by decide) dX3_admit_101 (fun H locs hH => ?_)
    refine lv_aload_n hx hb dX3_admit_102 rfl (lv_at hl 0 rfl) ?_
    refine z_getr hX hH 0 3 8 rfl rfl flX3_admit_27 dX3_admit_103 ?_
    refine z_iconst hx hb dX3_admit_106 ?_
    refine z_aald hX hH 8 4 11 rfl rfl rfl (by decide) (by decide) rfl dX3_admit_107 ?_
    refine lv_iload_n hx hb dX3_admit_108 rfl (lv_at hl 1 rfl) ?_
    refine lv_iload hx hb dX3_admit_109 (lv_at hl 4 rfl) ?_
    obtain ⟨M10, eM10, hF⟩ := zl_e hF
    refine z_iast hX hH 11 400 eM10 rfl h7 (by decide) dX3_admit_111 (fun H locs hH => ?_)
    refine lv_aload_n hx hb dX3_admit_112 rfl (lv_at hl 0 rfl) ?_
    refine z_getr hX hH 0 3 8 rfl rfl flX3_admit_27 dX3_admit_113 ?_
    refine z_iconst hx hb dX3_admit_116 ?_
    refine z_aald hX hH 8 4 12 rfl rfl rfl (by decide) (by decide) rfl dX3_admit_117 ?_
    refine lv_iload_n hx hb dX3_admit_118 rfl (lv_at hl 1 rfl) ?_
    refine z_iconst hx hb dX3_admit_119 ?_
    obtain ⟨M11, eM11, hF⟩ := zl_e hF
    refine z_iast hX hH 12 400 eM11 rfl h7 (by decide) dX3_admit_120 (fun H locs hH => ?_)
    refine lv_aload_n hx hb dX3_admit_121 rfl (lv_at hl 0 rfl) ?_
    refine z_getr hX hH 0 3 8 rfl rfl flX3_admit_27 dX3_admit_122 ?_
    refine z_iconst hx hb dX3_admit_125 ?_
    refine z_aald hX hH 8 4 13 rfl rfl rfl (by decide) (by decide) rfl dX3_admit_126 ?_
    refine lv_iload_n hx hb dX3_admit_127 rfl (lv_at hl 1 rfl) ?_
    refine lv_iload hx hb dX3_admit_128 (lv_at hl 5 rfl) ?_
    obtain ⟨h12, hF⟩ := zg_e hF
    refine z_if_ne (tgt := 142) hx hb h12 dX3_admit_130 (by decide) (fun hc => ?_) (fun hc => ?_)
    · have hF := zi_f hF hc
      refine z_iconst hx hb dX3_admit_142 ?_
      exact J143 x1 x5 (0:Int) x1 M11 hF _ _ _ hH (lv_sub hl [0, 1, 5] rfl)
    · have hF := zi_t hF hc
      refine lv_aload_n hx hb dX3_admit_133 rfl (lv_at hl 0 rfl) ?_
      refine z_getr hX hH 0 0 1 rfl rfl flX3_admit_9 dX3_admit_134 ?_
      refine z_iconst hx hb dX3_admit_137 ?_
      refine z_iald hX hH 1 4 rfl (by decide) (by decide) dX3_admit_138 ?_
      refine lv_goto (tgt := 143) hx hb dX3_admit_139 (by decide) ?_
      exact J143 x1 x5 (M11 1 3) x1 M11 hF _ _ _ hH (lv_sub hl [0, 1, 5] rfl)
  have hl : lv_has ls 6 [(0, .ref (α 0)), (1, .int (nZ a1)), (2, .int (nZ a2)), (3, .int (nZ a3)), (4, .int (nZ a4))] := hl
  unfold fX3_admit at hF
  refine lv_aload_n hx hb dX3_admit_0 rfl (lv_at hl 0 rfl) ?_
  refine z_getr hX hH 0 3 8 rfl rfl flX3_admit_27 dX3_admit_1 ?_
  refine z_iconst hx hb dX3_admit_4 ?_
  refine z_aald hX hH 8 4 9 rfl rfl rfl (by decide) (by decide) rfl dX3_admit_5 ?_
  refine lv_iload_n hx hb dX3_admit_6 rfl (lv_at hl 1 rfl) ?_
  obtain ⟨h1, hF⟩ := zg_e hF
  refine z_iald hX hH 9 400 rfl h1 (by decide) dX3_admit_7 ?_
  obtain ⟨v2, ev2, hF⟩ := zl_e hF
  refine z_istore ev2 (lv' := [(5, .int (nZ v2)), (0, .ref (α 0)), (1, .int (nZ a1)), (2, .int (nZ a2)), (3, .int (nZ a3)), (4, .int (nZ a4))]) hx hb dX3_admit_8 hl (by decide) rfl (fun ls hl => ?_)
  refine lv_aload_n hx hb dX3_admit_10 rfl (lv_at hl 1 rfl) ?_
  refine lv_iload_n hx hb dX3_admit_11 rfl (lv_at hl 2 rfl) ?_
  refine z_iconst hx hb dX3_admit_12 ?_
  obtain ⟨M4, c3, hF⟩ := zc_e hF
  refine z_sameVv (As := [.int (nZ a1), .int (nZ (0:Int))]) hX hH 0 3 (ctX3_move l D cs α N M a1 (0:Int) M4 c3) (cwV 2 hts gX3_admit_X3_move rfl rfl rfl (by decide +kernel) ⟨Nat.le_of_ble_eq_true rfl, Nat.le_of_ble_eq_true rfl⟩) rfl rfl rfl hl.1 (Nat.le_of_ble_eq_true rfl) rfl dX3_admit_13 ⟨Nat.zero_le _, Nat.zero_le _⟩ (fun H locs hH => ?_)
  refine lv_iload hx hb dX3_admit_16 (lv_at hl 0 rfl) ?_
  refine z_iconst hx hb dX3_admit_18 ?_
  obtain ⟨h5, hF⟩ := zg_e hF
  refine z_icmp_ne (tgt := 43) hx hb h5 (by decide) dX3_admit_19 (by decide) (fun hc => ?_) (fun hc => ?_)
  · have hF := zi_f hF hc
    refine lv_iload hx hb dX3_admit_43 (lv_at hl 0 rfl) ?_
    refine z_iconst hx hb dX3_admit_45 ?_
    refine z_icmp_ne (tgt := 72) hx hb h5 (by decide) dX3_admit_46 (by decide) (fun hc => ?_) (fun hc => ?_)
    · have hF := zi_f hF hc
      exact J72 a1 a2 a3 a4 v2 M4 hF _ _ _ hH (lv_sub hl [1, 2, 3, 4, 5, 0] rfl)
    · have hF := zi_t hF hc
      refine lv_aload_n hx hb dX3_admit_49 rfl (lv_at hl 1 rfl) ?_
      refine z_getr hX hH 0 0 1 rfl rfl flX3_admit_9 dX3_admit_50 ?_
      refine z_iconst hx hb dX3_admit_53 ?_
      refine lv_aload_n hx hb dX3_admit_54 rfl (lv_at hl 1 rfl) ?_
      refine z_getr hX hH 0 0 1 rfl rfl flX3_admit_9 dX3_admit_55 ?_
      refine z_iconst hx hb dX3_admit_58 ?_
      refine z_iald hX hH 1 4 rfl (by decide) (by decide) dX3_admit_59 ?_
      refine lv_iload_n hx hb dX3_admit_60 rfl (lv_at hl 4 rfl) ?_
      refine z_iadd hx hb dX3_admit_61 ?_
      refine lv_aload_n hx hb dX3_admit_62 rfl (lv_at hl 1 rfl) ?_
      refine z_getr hX hH 0 0 1 rfl rfl flX3_admit_9 dX3_admit_63 ?_
      refine z_iconst hx hb dX3_admit_66 ?_
      refine z_iald hX hH 1 4 rfl (by decide) (by decide) dX3_admit_67 ?_
      obtain ⟨h20, hF⟩ := zg_e hF
      obtain ⟨h21, hF⟩ := zg_e hF
      refine z_min hX hl.1 (hts (.methodLink RX3 104 Lib.Math.min.name) (by decide +kernel)) (hts (.static Lib.Math.min.name) (by decide +kernel)) (hts (.initialized "java/lang/Math") (by decide +kernel)) (hts (.code Lib.Math.min.name Lib.Math.min.code 2 (some .int)) (by decide +kernel)) (Nat.le_of_ble_eq_true rfl) (Nat.le_of_ble_eq_true rfl) h20 h21 dX3_admit_68 ?_
      obtain ⟨M22, eM22, hF⟩ := zl_e hF
      refine z_iast hX hH 1 4 eM22 rfl (by decide) (by decide) dX3_admit_71 (fun H locs hH => ?_)
      exact J72 a1 a2 a3 a4 v2 M22 hF _ _ _ hH (lv_sub hl [1, 2, 3, 4, 5, 0] rfl)
  · have hF := zi_t hF hc
    refine lv_aload_n hx hb dX3_admit_22 rfl (lv_at hl 1 rfl) ?_
    refine z_getr hX hH 0 0 1 rfl rfl flX3_admit_9 dX3_admit_23 ?_
    refine z_iconst hx hb dX3_admit_26 ?_
    refine lv_aload_n hx hb dX3_admit_27 rfl (lv_at hl 1 rfl) ?_
    refine z_getr hX hH 0 0 1 rfl rfl flX3_admit_9 dX3_admit_28 ?_
    refine z_iconst hx hb dX3_admit_31 ?_
    refine z_iald hX hH 1 4 rfl (by decide) (by decide) dX3_admit_32 ?_
    refine lv_iload_n hx hb dX3_admit_33 rfl (lv_at hl 4 rfl) ?_
    refine z_isub hx hb dX3_admit_34 ?_
    refine z_iconst hx hb dX3_admit_35 ?_
    obtain ⟨h23, hF⟩ := zg_e hF
    refine z_max hX hl.1 (hts (.methodLink RX3 99 Lib.Math.max.name) (by decide +kernel)) (hts (.static Lib.Math.max.name) (by decide +kernel)) (hts (.initialized "java/lang/Math") (by decide +kernel)) (hts (.code Lib.Math.max.name Lib.Math.max.code 2 (some .int)) (by decide +kernel)) (Nat.le_of_ble_eq_true rfl) (Nat.le_of_ble_eq_true rfl) h23 (by decide) dX3_admit_36 ?_
    obtain ⟨M24, eM24, hF⟩ := zl_e hF
    refine z_iast hX hH 1 4 eM24 rfl (by decide) (by decide) dX3_admit_39 (fun H locs hH => ?_)
    refine lv_goto (tgt := 72) hx hb dX3_admit_40 (by decide) ?_
    exact J72 a1 a2 a3 a4 v2 M24 hF _ _ _ hH (lv_sub hl [1, 2, 3, 4, 5, 0] rfl)
theorem flX3_demote_21 : zF RX3 wsX3_demote 21 3 2 := ⟨_, TX3, _, rfl, by decide +kernel, by decide +kernel, by decide, rfl⟩
theorem flX3_demote_63 : zF RX3 wsX3_demote 63 2 1 := ⟨_, TX2, _, rfl, by decide +kernel, by decide +kernel, by decide, rfl⟩
theorem flX3_demote_9 : zF RX3 wsX3_demote 9 3 0 := ⟨_, TX3, _, rfl, by decide +kernel, by decide +kernel, by decide, rfl⟩
theorem flX3_demote_27 : zF RX3 wsX3_demote 27 3 3 := ⟨_, TX3, _, rfl, by decide +kernel, by decide +kernel, by decide, rfl⟩
theorem em_LSt_is_3n5_14n1 : zemb LSt LQp is_3n5_14n1 = true := by decide +kernel
set_option maxHeartbeats 4000000 in
set_option maxRecDepth 100000 in
theorem ctX3_demote (l : Launch) (D : va_G) (cs : Nat → ClassId) (α : Nat → Nat) (N : Nat) (M : zM) (M' : zM) (hF : fX3_demote N M = some M') : Met l yX3_demote wsX3_demote ({ frames := 2, cells := 0, slots := 0, locals := 48 }) (zPre D cs LSt α M [.ref (α 0)]) (zQv D cs LSt α M') 0 0 (zA LSt.length α) := by
  refine z_met (cc := cX3_demote) (maxL := 3) (ret := none) (by decide +kernel) rfl RX3 rfl (Nat.le_of_ble_eq_true rfl) ?_
  intro p e s m below meth c ls hX hr hlocks hH hl
  have hx := hX.1.1
  have hb := hX.1.2.1
  have hts := hX.1.2.2.2.2
  have L2 : ∀ (n : Nat) (x1 : Int) (M0 : zM), fX3_demote_2 N n x1 M0 = some M' → zGo p l e (headSpec wsX3_demote ({ frames := 2, cells := 0, slots := 0, locals := 48 })).room s m ([.ref (α 0)] : List Value).toArray below meth c (MQ below (zQv D cs LSt α M') ([.ref (α 0)] : List Value).toArray s 0 0 (zA LSt.length α)) D cs LSt α (zA LSt.length α) 3 2 [(0, .ref (α 0)), (1, .int (nZ x1))] [] M0 := by
    intro  n
    induction n with
    | zero =>
      intro x1 M0 hF
      have hF : (none : Option zM) = some M' := hF
      cases hF
    | succ n hk2 =>
      intro x1 M0 hF H locs ls hH hl
      have hF : sX3_demote_2 N (fun x1 M0 => fX3_demote_2 N n x1 M0) x1 M0 = some M' := hF
      unfold sX3_demote_2 at hF
      refine lv_iload_n hx hb dX3_demote_2 rfl (lv_at hl 1 rfl) ?_
      refine z_ldc (v := 1000000) (n := 1000000) hx hb hX.1.2.2.2.1 (hts (.constant RX3 116 1000000) (by decide +kernel)) (by decide +kernel) dX3_demote_3 ?_
      obtain ⟨h2, hF⟩ := zg_e hF
      refine z_icmp_ge (tgt := 67) hx hb h2 (by decide) dX3_demote_5 (by decide) (fun hc => ?_) (fun hc => ?_)
      · have hF := zi_t hF hc
        exact z_vret hX hr hlocks hH hF dX3_demote_67
      · have hF := zi_f hF hc
        refine lv_aload_n hx hb dX3_demote_8 rfl (lv_at hl 0 rfl) ?_
        refine z_getr hX hH 0 2 3 rfl rfl flX3_demote_21 dX3_demote_9 ?_
        refine z_getr hX hH 3 1 5 rfl rfl flX3_demote_63 dX3_demote_12 ?_
        refine z_iconst hx hb dX3_demote_15 ?_
        refine z_iald hX hH 5 5 rfl (by decide) (by decide) dX3_demote_16 ?_
        refine lv_aload_n hx hb dX3_demote_17 rfl (lv_at hl 0 rfl) ?_
        refine z_getr hX hH 0 0 1 rfl rfl flX3_demote_9 dX3_demote_18 ?_
        refine z_iconst hx hb dX3_demote_21 ?_
        refine z_iald hX hH 1 4 rfl (by decide) (by decide) dX3_demote_22 ?_
        obtain ⟨h3, hF⟩ := zg_e hF
        obtain ⟨h4, hF⟩ := zg_e hF
        refine z_icmp_le (tgt := 67) hx hb h3 h4 dX3_demote_23 (by decide) (fun hc => ?_) (fun hc => ?_)
        · have hF := zi_t hF hc
          exact z_vret hX hr hlocks hH hF dX3_demote_67
        · have hF := zi_f hF hc
          refine lv_aload_n hx hb dX3_demote_26 rfl (lv_at hl 0 rfl) ?_
          refine z_getr hX hH 0 2 3 rfl rfl flX3_demote_21 dX3_demote_27 ?_
          refine z_iconst hx hb dX3_demote_30 ?_
          refine lv_aload_n hx hb dX3_demote_31 rfl (lv_at hl 0 rfl) ?_
          refine z_getr hX hH 0 3 8 rfl rfl flX3_demote_27 dX3_demote_32 ?_
          refine z_iconst hx hb dX3_demote_35 ?_
          refine z_aald hX hH 8 4 14 rfl rfl rfl (by decide) (by decide) rfl dX3_demote_36 ?_
          obtain ⟨r7, M6, c5, hF⟩ := zc2_e hF
          obtain ⟨M8, eM8, hF⟩ := zl_e hF
          refine z_callVi (As := [.int (nZ (2:Int)), .ref (α 14)]) hX hH 3 2 em_LSt_is_3n5_14n1 (ctX2_oldestLoose l D cs (zsb is_3n5_14n1 α) N (zpk is_3n5_14n1 M0) (2:Int) r7 M6 c5) (cwV 2 hts gX3_demote_X2_oldestLoose rfl rfl rfl (by decide +kernel) ⟨Nat.le_of_ble_eq_true rfl, Nat.le_of_ble_eq_true rfl⟩) rfl rfl rfl hl.1 (Nat.le_of_ble_eq_true rfl) rfl dX3_demote_37 ⟨Nat.zero_le _, Nat.zero_le _⟩ (fun H locs hH => ?_)
          rw [← eM8] at hH
          obtain ⟨v9, ev9, hF⟩ := zl_e hF
          refine z_istore_n ev9 (lv' := [(2, .int (nZ v9)), (0, .ref (α 0)), (1, .int (nZ x1))]) hx hb dX3_demote_40 rfl hl (by decide) rfl (fun ls hl => ?_)
          refine lv_iload_n hx hb dX3_demote_41 rfl (lv_at hl 0 rfl) ?_
          obtain ⟨h10, hF⟩ := zg_e hF
          refine z_if_ge (tgt := 46) hx hb h10 dX3_demote_42 (by decide) (fun hc => ?_) (fun hc => ?_)
          · have hF := zi_t hF hc
            refine lv_aload_n hx hb dX3_demote_46 rfl (lv_at hl 1 rfl) ?_
            refine z_getr hX hH 0 3 8 rfl rfl flX3_demote_27 dX3_demote_47 ?_
            refine z_iconst hx hb dX3_demote_50 ?_
            refine z_aald hX hH 8 4 12 rfl rfl rfl (by decide) (by decide) rfl dX3_demote_51 ?_
            refine lv_iload_n hx hb dX3_demote_52 rfl (lv_at hl 0 rfl) ?_
            refine z_iconst hx hb dX3_demote_53 ?_
            obtain ⟨h11, hF⟩ := zg_e hF
            obtain ⟨M12, eM12, hF⟩ := zl_e hF
            refine z_iast hX hH 12 400 eM12 rfl h11 (by decide) dX3_demote_54 (fun H locs hH => ?_)
            refine lv_aload_n hx hb dX3_demote_55 rfl (lv_at hl 1 rfl) ?_
            refine lv_iload_n hx hb dX3_demote_56 rfl (lv_at hl 0 rfl) ?_
            refine z_iconst hx hb dX3_demote_57 ?_
            obtain ⟨M14, c13, hF⟩ := zc_e hF
            refine z_sameVv (As := [.int (nZ v9), .int (nZ (1:Int))]) hX hH 0 3 (ctX3_move l D cs α N M12 v9 (1:Int) M14 c13) (cwV 2 hts gX3_demote_X3_move rfl rfl rfl (by decide +kernel) ⟨Nat.le_of_ble_eq_true rfl, Nat.le_of_ble_eq_true rfl⟩) rfl rfl rfl hl.1 (Nat.le_of_ble_eq_true rfl) rfl dX3_demote_58 ⟨Nat.zero_le _, Nat.zero_le _⟩ (fun H locs hH => ?_)
            obtain ⟨v15, ev15, hF⟩ := zl_e hF
            refine z_iinc ev15 (lv' := [(1, .int (nZ v15)), (2, .int (nZ v9)), (0, .ref (α 0))]) hx hb dX3_demote_61 hl (k := 2) rfl (by decide) rfl (fun ls hl => ?_)
            refine lv_goto (tgt := 2) hx hb dX3_demote_64 (by decide) ?_
            exact hk2 v15 M14 hF _ _ _ hH (lv_sub hl [2, 0] rfl)
          · have hF := zi_f hF hc
            exact z_vret hX hr hlocks hH hF dX3_demote_45
  have hl : lv_has ls 3 [(0, .ref (α 0))] := hl
  unfold fX3_demote at hF
  refine z_iconst hx hb dX3_demote_0 ?_
  obtain ⟨v1, ev1, hF⟩ := zl_e hF
  refine z_istore_n ev1 (lv' := [(1, .int (nZ v1)), (0, .ref (α 0))]) hx hb dX3_demote_1 rfl hl (by decide) rfl (fun ls hl => ?_)
  exact L2 N v1 M hF _ _ _ hH (lv_sub hl [1, 0] rfl)
theorem flX3_makeRoom_9 : zF RX3 wsX3_makeRoom 9 3 0 := ⟨_, TX3, _, rfl, by decide +kernel, by decide +kernel, by decide, rfl⟩
theorem flX3_makeRoom_21 : zF RX3 wsX3_makeRoom 21 3 2 := ⟨_, TX3, _, rfl, by decide +kernel, by decide +kernel, by decide, rfl⟩
theorem flX3_makeRoom_27 : zF RX3 wsX3_makeRoom 27 3 3 := ⟨_, TX3, _, rfl, by decide +kernel, by decide +kernel, by decide, rfl⟩
theorem flX3_makeRoom_33 : zF RX3 wsX3_makeRoom 33 3 4 := ⟨_, TX3, _, rfl, by decide +kernel, by decide +kernel, by decide, rfl⟩
theorem em_LSt_is_16n2 : zemb LSt LLeav is_16n2 = true := by decide +kernel
set_option maxHeartbeats 4000000 in
set_option maxRecDepth 100000 in
theorem ctX3_makeRoom (l : Launch) (D : va_G) (cs : Nat → ClassId) (α : Nat → Nat) (N : Nat) (M : zM) (M' : zM) (hF : fX3_makeRoom N M = some M') : Met l yX3_makeRoom wsX3_makeRoom ({ frames := 2, cells := 0, slots := 0, locals := 48 }) (zPre D cs LSt α M [.ref (α 0)]) (zQv D cs LSt α M') 0 0 (zA LSt.length α) := by
  refine z_met (cc := cX3_makeRoom) (maxL := 4) (ret := none) (by decide +kernel) rfl RX3 rfl (Nat.le_of_ble_eq_true rfl) ?_
  intro p e s m below meth c ls hX hr hlocks hH hl
  have hx := hX.1.1
  have hb := hX.1.2.1
  have hts := hX.1.2.2.2.2
  have J115 : ∀ (k2 : Int → zM → Option zM) (hk2 : ∀ (x1 : Int) (M0 : zM), k2 x1 M0 = some M' → zGo p l e (headSpec wsX3_makeRoom ({ frames := 2, cells := 0, slots := 0, locals := 48 })).room s m ([.ref (α 0)] : List Value).toArray below meth c (MQ below (zQv D cs LSt α M') ([.ref (α 0)] : List Value).toArray s 0 0 (zA LSt.length α)) D cs LSt α (zA LSt.length α) 4 2 [(0, .ref (α 0)), (1, .int (nZ x1))] [] M0) (x1 : Int) (M0 : zM), sX3_makeRoom_115 N k2 x1 M0 = some M' → zGo p l e (headSpec wsX3_makeRoom ({ frames := 2, cells := 0, slots := 0, locals := 48 })).room s m ([.ref (α 0)] : List Value).toArray below meth c (MQ below (zQv D cs LSt α M') ([.ref (α 0)] : List Value).toArray s 0 0 (zA LSt.length α)) D cs LSt α (zA LSt.length α) 4 115 [(0, .ref (α 0)), (1, .int (nZ x1))] [] M0 := by
    intro k2 hk2 x1 M0 hF H locs ls hH hl
    unfold sX3_makeRoom_115 at hF
    obtain ⟨v22, ev22, hF⟩ := zl_e hF
    refine z_iinc ev22 (lv' := [(1, .int (nZ v22)), (0, .ref (α 0))]) hx hb dX3_makeRoom_115 hl (k := 1) rfl (by decide) rfl (fun ls hl => ?_)
    refine lv_goto (tgt := 2) hx hb dX3_makeRoom_118 (by decide) ?_
    exact hk2 v22 M0 hF _ _ _ hH (lv_sub hl [1, 0] rfl)
  have J101 : ∀ (k2 : Int → zM → Option zM) (hk2 : ∀ (x1 : Int) (M0 : zM), k2 x1 M0 = some M' → zGo p l e (headSpec wsX3_makeRoom ({ frames := 2, cells := 0, slots := 0, locals := 48 })).room s m ([.ref (α 0)] : List Value).toArray below meth c (MQ below (zQv D cs LSt α M') ([.ref (α 0)] : List Value).toArray s 0 0 (zA LSt.length α)) D cs LSt α (zA LSt.length α) 4 2 [(0, .ref (α 0)), (1, .int (nZ x1))] [] M0) (x1 : Int) (x2 : Int) (x3 : Int) (M0 : zM), sX3_makeRoom_101 N k2 x1 x2 x3 M0 = some M' → zGo p l e (headSpec wsX3_makeRoom ({ frames := 2, cells := 0, slots := 0, locals := 48 })).room s m ([.ref (α 0)] : List Value).toArray below meth c (MQ below (zQv D cs LSt α M') ([.ref (α 0)] : List Value).toArray s 0 0 (zA LSt.length α)) D cs LSt α (zA LSt.length α) 4 101 [(0, .ref (α 0)), (1, .int (nZ x1)), (2, .int (nZ x2)), (3, .int (nZ x3))] [] M0 := by
    intro k2 hk2 x1 x2 x3 M0 hF H locs ls hH hl
    unfold sX3_makeRoom_101 at hF
    refine lv_aload_n hx hb dX3_makeRoom_101 rfl (lv_at hl 0 rfl) ?_
    refine lv_iload_n hx hb dX3_makeRoom_102 rfl (lv_at hl 3 rfl) ?_
    refine lv_iload_n hx hb dX3_makeRoom_103 rfl (lv_at hl 2 rfl) ?_
    obtain ⟨M18, c17, hF⟩ := zc_e hF
    refine z_sameVv (As := [.int (nZ x3), .int (nZ x2)]) hX hH 0 3 (ctX3_move l D cs α N M0 x3 x2 M18 c17) (cwV 2 hts gX3_makeRoom_X3_move rfl rfl rfl (by decide +kernel) ⟨Nat.le_of_ble_eq_true rfl, Nat.le_of_ble_eq_true rfl⟩) rfl rfl rfl hl.1 (Nat.le_of_ble_eq_true rfl) rfl dX3_makeRoom_104 ⟨Nat.zero_le _, Nat.zero_le _⟩ (fun H locs hH => ?_)
    refine lv_aload_n hx hb dX3_makeRoom_107 rfl (lv_at hl 0 rfl) ?_
    refine z_getr hX hH 0 4 16 rfl rfl flX3_makeRoom_33 dX3_makeRoom_108 ?_
    refine lv_iload_n hx hb dX3_makeRoom_111 rfl (lv_at hl 3 rfl) ?_
    obtain ⟨M20, c19, hF⟩ := zc_e hF
    obtain ⟨M21, eM21, hF⟩ := zl_e hF
    refine z_callVv (As := [.int (nZ x3)]) hX hH 16 1 em_LSt_is_16n2 (ctX1_add l D cs (zsb is_16n2 α) N (zpk is_16n2 M18) x3 M20 c19) (cwV 1 hts gX3_makeRoom_X1_add rfl rfl rfl (by decide +kernel) ⟨Nat.le_of_ble_eq_true rfl, Nat.le_of_ble_eq_true rfl⟩) rfl rfl rfl hl.1 (Nat.le_of_ble_eq_true rfl) rfl dX3_makeRoom_112 ⟨Nat.zero_le _, Nat.zero_le _⟩ (fun H locs hH => ?_)
    rw [← eM21] at hH
    exact J115 k2 hk2 x1 M21 hF _ _ _ hH (lv_sub hl [0, 1] rfl)
  have J59 : ∀ (k2 : Int → zM → Option zM) (hk2 : ∀ (x1 : Int) (M0 : zM), k2 x1 M0 = some M' → zGo p l e (headSpec wsX3_makeRoom ({ frames := 2, cells := 0, slots := 0, locals := 48 })).room s m ([.ref (α 0)] : List Value).toArray below meth c (MQ below (zQv D cs LSt α M') ([.ref (α 0)] : List Value).toArray s 0 0 (zA LSt.length α)) D cs LSt α (zA LSt.length α) 4 2 [(0, .ref (α 0)), (1, .int (nZ x1))] [] M0) (x1 : Int) (x2 : Int) (x3 : Int) (M0 : zM), sX3_makeRoom_59 N k2 x1 x2 x3 M0 = some M' → zGo p l e (headSpec wsX3_makeRoom ({ frames := 2, cells := 0, slots := 0, locals := 48 })).room s m ([.ref (α 0)] : List Value).toArray below meth c (MQ below (zQv D cs LSt α M') ([.ref (α 0)] : List Value).toArray s 0 0 (zA LSt.length α)) D cs LSt α (zA LSt.length α) 4 59 [(0, .ref (α 0)), (1, .int (nZ x1)), (2, .int (nZ x2)), (3, .int (nZ x3))] [] M0 := by
    intro k2 hk2 x1 x2 x3 M0 hF H locs ls hH hl
    unfold sX3_makeRoom_59 at hF
    refine lv_iload_n hx hb dX3_makeRoom_59 rfl (lv_at hl 3 rfl) ?_
    obtain ⟨h15, hF⟩ := zg_e hF
    refine z_if_ge (tgt := 64) hx hb h15 dX3_makeRoom_60 (by decide) (fun hc => ?_) (fun hc => ?_)
    · have hF := zi_t hF hc
      refine lv_iload_n hx hb dX3_makeRoom_64 rfl (lv_at hl 2 rfl) ?_
      refine z_iconst hx hb dX3_makeRoom_65 ?_
      obtain ⟨h16, hF⟩ := zg_e hF
      refine z_icmp_ne (tgt := 101) hx hb h16 (by decide) dX3_makeRoom_66 (by decide) (fun hc => ?_) (fun hc => ?_)
      · have hF := zi_f hF hc
        exact J101 k2 hk2 x1 x2 x3 M0 hF _ _ _ hH (lv_sub hl [0, 1, 2, 3] rfl)
      · have hF := zi_t hF hc
        refine lv_aload_n hx hb dX3_makeRoom_69 rfl (lv_at hl 0 rfl) ?_
        refine z_getr hX hH 0 3 8 rfl rfl flX3_makeRoom_27 dX3_makeRoom_70 ?_
        refine z_iconst hx hb dX3_makeRoom_73 ?_
        refine z_aald hX hH 8 4 13 rfl rfl rfl (by decide) (by decide) rfl dX3_makeRoom_74 ?_
        refine lv_iload_n hx hb dX3_makeRoom_75 rfl (lv_at hl 3 rfl) ?_
        obtain ⟨h23, hF⟩ := zg_e hF
        refine z_iald hX hH 13 400 rfl h23 (by decide) dX3_makeRoom_76 ?_
        obtain ⟨h24, hF⟩ := zg_e hF
        refine z_if_le (tgt := 101) hx hb h24 dX3_makeRoom_77 (by decide) (fun hc => ?_) (fun hc => ?_)
        · have hF := zi_t hF hc
          exact J101 k2 hk2 x1 x2 x3 M0 hF _ _ _ hH (lv_sub hl [0, 1, 2, 3] rfl)
        · have hF := zi_f hF hc
          refine lv_aload_n hx hb dX3_makeRoom_80 rfl (lv_at hl 0 rfl) ?_
          refine z_getr hX hH 0 3 8 rfl rfl flX3_makeRoom_27 dX3_makeRoom_81 ?_
          refine z_iconst hx hb dX3_makeRoom_84 ?_
          refine z_aald hX hH 8 4 13 rfl rfl rfl (by decide) (by decide) rfl dX3_makeRoom_85 ?_
          refine lv_iload_n hx hb dX3_makeRoom_86 rfl (lv_at hl 3 rfl) ?_
          refine lv_dup2_11 hx hb dX3_makeRoom_87 rfl rfl ?_
          refine z_iald hX hH 13 400 rfl h23 (by decide) dX3_makeRoom_88 ?_
          refine z_iconst hx hb dX3_makeRoom_89 ?_
          refine z_isub hx hb dX3_makeRoom_90 ?_
          obtain ⟨M25, eM25, hF⟩ := zl_e hF
          refine z_iast hX hH 13 400 eM25 rfl h23 (by decide) dX3_makeRoom_91 (fun H locs hH => ?_)
          refine lv_aload_n hx hb dX3_makeRoom_92 rfl (lv_at hl 0 rfl) ?_
          refine lv_iload_n hx hb dX3_makeRoom_93 rfl (lv_at hl 3 rfl) ?_
          refine z_iconst hx hb dX3_makeRoom_94 ?_
          obtain ⟨M27, c26, hF⟩ := zc_e hF
          refine z_sameVv (As := [.int (nZ x3), .int (nZ (1:Int))]) hX hH 0 3 (ctX3_move l D cs α N M25 x3 (1:Int) M27 c26) (cwV 2 hts gX3_makeRoom_X3_move rfl rfl rfl (by decide +kernel) ⟨Nat.le_of_ble_eq_true rfl, Nat.le_of_ble_eq_true rfl⟩) rfl rfl rfl hl.1 (Nat.le_of_ble_eq_true rfl) rfl dX3_makeRoom_95 ⟨Nat.zero_le _, Nat.zero_le _⟩ (fun H locs hH => ?_)
          refine lv_goto (tgt := 115) hx hb dX3_makeRoom_98 (by decide) ?_
          exact J115 k2 hk2 x1 M27 hF _ _ _ hH (lv_sub hl [0, 1] rfl)
    · have hF := zi_f hF hc
      exact z_vret hX hr hlocks hH hF dX3_makeRoom_63
  have L2 : ∀ (n : Nat) (x1 : Int) (M0 : zM), fX3_makeRoom_2 N n x1 M0 = some M' → zGo p l e (headSpec wsX3_makeRoom ({ frames := 2, cells := 0, slots := 0, locals := 48 })).room s m ([.ref (α 0)] : List Value).toArray below meth c (MQ below (zQv D cs LSt α M') ([.ref (α 0)] : List Value).toArray s 0 0 (zA LSt.length α)) D cs LSt α (zA LSt.length α) 4 2 [(0, .ref (α 0)), (1, .int (nZ x1))] [] M0 := by
    intro  n
    induction n with
    | zero =>
      intro x1 M0 hF
      have hF : (none : Option zM) = some M' := hF
      cases hF
    | succ n hk2 =>
      intro x1 M0 hF H locs ls hH hl
      have hF : sX3_makeRoom_2 N (fun x1 M0 => fX3_makeRoom_2 N n x1 M0) x1 M0 = some M' := hF
      unfold sX3_makeRoom_2 at hF
      refine lv_iload_n hx hb dX3_makeRoom_2 rfl (lv_at hl 1 rfl) ?_
      refine z_ldc (v := 1000000) (n := 1000000) hx hb hX.1.2.2.2.1 (hts (.constant RX3 116 1000000) (by decide +kernel)) (by decide +kernel) dX3_makeRoom_3 ?_
      obtain ⟨h2, hF⟩ := zg_e hF
      refine z_icmp_ge (tgt := 121) hx hb h2 (by decide) dX3_makeRoom_5 (by decide) (fun hc => ?_) (fun hc => ?_)
      · have hF := zi_t hF hc
        exact z_vret hX hr hlocks hH hF dX3_makeRoom_121
      · have hF := zi_f hF hc
        refine lv_aload_n hx hb dX3_makeRoom_8 rfl (lv_at hl 0 rfl) ?_
        obtain ⟨r5, M4, c3, hF⟩ := zc2_e hF
        refine z_sameVi (As := []) hX hH 0 3 (ctX3_weightOfThings l D cs α N M0  r5 M4 c3) (cwV 0 hts gX3_makeRoom_X3_weightOfThings rfl rfl rfl (by decide +kernel) ⟨Nat.le_of_ble_eq_true rfl, Nat.le_of_ble_eq_true rfl⟩) rfl rfl rfl hl.1 (Nat.le_of_ble_eq_true rfl) rfl dX3_makeRoom_9 ⟨Nat.zero_le _, Nat.zero_le _⟩ (fun H locs hH => ?_)
        refine lv_aload_n hx hb dX3_makeRoom_12 rfl (lv_at hl 0 rfl) ?_
        refine z_getr hX hH 0 0 1 rfl rfl flX3_makeRoom_9 dX3_makeRoom_13 ?_
        refine z_iconst hx hb dX3_makeRoom_16 ?_
        refine z_iald hX hH 1 4 rfl (by decide) (by decide) dX3_makeRoom_17 ?_
        obtain ⟨h6, hF⟩ := zg_e hF
        obtain ⟨h7, hF⟩ := zg_e hF
        refine z_icmp_le (tgt := 121) hx hb h6 h7 dX3_makeRoom_18 (by decide) (fun hc => ?_) (fun hc => ?_)
        · have hF := zi_t hF hc
          exact z_vret hX hr hlocks hH hF dX3_makeRoom_121
        · have hF := zi_f hF hc
          refine z_iconst hx hb dX3_makeRoom_21 ?_
          obtain ⟨v8, ev8, hF⟩ := zl_e hF
          refine z_istore_n ev8 (lv' := [(2, .int (nZ v8)), (0, .ref (α 0)), (1, .int (nZ x1))]) hx hb dX3_makeRoom_22 rfl hl (by decide) rfl (fun ls hl => ?_)
          refine lv_aload_n hx hb dX3_makeRoom_23 rfl (lv_at hl 1 rfl) ?_
          refine z_getr hX hH 0 2 3 rfl rfl flX3_makeRoom_21 dX3_makeRoom_24 ?_
          refine z_iconst hx hb dX3_makeRoom_27 ?_
          refine lv_aload_n hx hb dX3_makeRoom_28 rfl (lv_at hl 1 rfl) ?_
          refine z_getr hX hH 0 3 8 rfl rfl flX3_makeRoom_27 dX3_makeRoom_29 ?_
          refine z_iconst hx hb dX3_makeRoom_32 ?_
          refine z_aald hX hH 8 4 14 rfl rfl rfl (by decide) (by decide) rfl dX3_makeRoom_33 ?_
          obtain ⟨r11, M10, c9, hF⟩ := zc2_e hF
          obtain ⟨M12, eM12, hF⟩ := zl_e hF
          refine z_callVi (As := [.int (nZ (1:Int)), .ref (α 14)]) hX hH 3 2 em_LSt_is_3n5_14n1 (ctX2_oldestLoose l D cs (zsb is_3n5_14n1 α) N (zpk is_3n5_14n1 M4) (1:Int) r11 M10 c9) (cwV 2 hts gX3_makeRoom_X2_oldestLoose rfl rfl rfl (by decide +kernel) ⟨Nat.le_of_ble_eq_true rfl, Nat.le_of_ble_eq_true rfl⟩) rfl rfl rfl hl.1 (Nat.le_of_ble_eq_true rfl) rfl dX3_makeRoom_34 ⟨Nat.zero_le _, Nat.zero_le _⟩ (fun H locs hH => ?_)
          rw [← eM12] at hH
          obtain ⟨v13, ev13, hF⟩ := zl_e hF
          refine z_istore_n ev13 (lv' := [(3, .int (nZ v13)), (2, .int (nZ v8)), (0, .ref (α 0)), (1, .int (nZ x1))]) hx hb dX3_makeRoom_37 rfl hl (by decide) rfl (fun ls hl => ?_)
          refine lv_iload_n hx hb dX3_makeRoom_38 rfl (lv_at hl 0 rfl) ?_
          obtain ⟨h14, hF⟩ := zg_e hF
          refine z_if_ge (tgt := 59) hx hb h14 dX3_makeRoom_39 (by decide) (fun hc => ?_) (fun hc => ?_)
          · have hF := zi_t hF hc
            exact J59 (fun x1 M0 => fX3_makeRoom_2 N n x1 M0) hk2 x1 v8 v13 M12 hF _ _ _ hH (lv_sub hl [2, 3, 1, 0] rfl)
          · have hF := zi_f hF hc
            refine z_iconst hx hb dX3_makeRoom_42 ?_
            obtain ⟨v28, ev28, hF⟩ := zl_e hF
            refine z_istore_n ev28 (lv' := [(2, .int (nZ v28)), (3, .int (nZ v13)), (0, .ref (α 0)), (1, .int (nZ x1))]) hx hb dX3_makeRoom_43 rfl hl (by decide) rfl (fun ls hl => ?_)
            refine lv_aload_n hx hb dX3_makeRoom_44 rfl (lv_at hl 2 rfl) ?_
            refine z_getr hX hH 0 2 3 rfl rfl flX3_makeRoom_21 dX3_makeRoom_45 ?_
            refine z_iconst hx hb dX3_makeRoom_48 ?_
            refine lv_aload_n hx hb dX3_makeRoom_49 rfl (lv_at hl 2 rfl) ?_
            refine z_getr hX hH 0 3 8 rfl rfl flX3_makeRoom_27 dX3_makeRoom_50 ?_
            refine z_iconst hx hb dX3_makeRoom_53 ?_
            refine z_aald hX hH 8 4 14 rfl rfl rfl (by decide) (by decide) rfl dX3_makeRoom_54 ?_
            obtain ⟨r31, M30, c29, hF⟩ := zc2_e hF
            obtain ⟨M32, eM32, hF⟩ := zl_e hF
            refine z_callVi (As := [.int (nZ (2:Int)), .ref (α 14)]) hX hH 3 2 em_LSt_is_3n5_14n1 (ctX2_oldestLoose l D cs (zsb is_3n5_14n1 α) N (zpk is_3n5_14n1 M12) (2:Int) r31 M30 c29) (cwV 2 hts gX3_makeRoom_X2_oldestLoose rfl rfl rfl (by decide +kernel) ⟨Nat.le_of_ble_eq_true rfl, Nat.le_of_ble_eq_true rfl⟩) rfl rfl rfl hl.1 (Nat.le_of_ble_eq_true rfl) rfl dX3_makeRoom_55 ⟨Nat.zero_le _, Nat.zero_le _⟩ (fun H locs hH => ?_)
            rw [← eM32] at hH
            obtain ⟨v33, ev33, hF⟩ := zl_e hF
            refine z_istore_n ev33 (lv' := [(3, .int (nZ v33)), (2, .int (nZ v28)), (0, .ref (α 0)), (1, .int (nZ x1))]) hx hb dX3_makeRoom_58 rfl hl (by decide) rfl (fun ls hl => ?_)
            exact J59 (fun x1 M0 => fX3_makeRoom_2 N n x1 M0) hk2 x1 v28 v33 M32 hF _ _ _ hH (lv_sub hl [2, 3, 1, 0] rfl)
  have hl : lv_has ls 4 [(0, .ref (α 0))] := hl
  unfold fX3_makeRoom at hF
  refine z_iconst hx hb dX3_makeRoom_0 ?_
  obtain ⟨v1, ev1, hF⟩ := zl_e hF
  refine z_istore_n ev1 (lv' := [(1, .int (nZ v1)), (0, .ref (α 0))]) hx hb dX3_makeRoom_1 rfl hl (by decide) rfl (fun ls hl => ?_)
  exact L2 N v1 M hF _ _ _ hH (lv_sub hl [1, 0] rfl)
theorem flX3_forget_21 : zF RX3 wsX3_forget 21 3 2 := ⟨_, TX3, _, rfl, by decide +kernel, by decide +kernel, by decide, rfl⟩
theorem flX3_forget_60 : zF RX3 wsX3_forget 60 2 0 := ⟨_, TX2, _, rfl, by decide +kernel, by decide +kernel, by decide, rfl⟩
theorem flX3_forget_63 : zF RX3 wsX3_forget 63 2 1 := ⟨_, TX2, _, rfl, by decide +kernel, by decide +kernel, by decide, rfl⟩
theorem flX3_forget_9 : zF RX3 wsX3_forget 9 3 0 := ⟨_, TX3, _, rfl, by decide +kernel, by decide +kernel, by decide, rfl⟩
set_option maxHeartbeats 4000000 in
set_option maxRecDepth 100000 in
theorem ctX3_forget (l : Launch) (D : va_G) (cs : Nat → ClassId) (α : Nat → Nat) (N : Nat) (M : zM) (a1 : Int) (M' : zM) (hF : fX3_forget N a1 M = some M') : Met l yX3_forget wsX3_forget ({ frames := 2, cells := 0, slots := 0, locals := 48 }) (zPre D cs LSt α M [.ref (α 0), .int (nZ a1)]) (zQv D cs LSt α M') 0 0 (zA LSt.length α) := by
  refine z_met (cc := cX3_forget) (maxL := 4) (ret := none) (by decide +kernel) rfl RX3 rfl (Nat.le_of_ble_eq_true rfl) ?_
  intro p e s m below meth c ls hX hr hlocks hH hl
  have hx := hX.1.1
  have hb := hX.1.2.1
  have hts := hX.1.2.2.2.2
  have L12 : ∀ (n : Nat) (x1 : Int) (x2 : Int) (x3 : Int) (M0 : zM), fX3_forget_12 N n x1 x2 x3 M0 = some M' → zGo p l e (headSpec wsX3_forget ({ frames := 2, cells := 0, slots := 0, locals := 48 })).room s m ([.ref (α 0), .int (nZ a1)] : List Value).toArray below meth c (MQ below (zQv D cs LSt α M') ([.ref (α 0), .int (nZ a1)] : List Value).toArray s 0 0 (zA LSt.length α)) D cs LSt α (zA LSt.length α) 4 12 [(0, .ref (α 0)), (1, .int (nZ x1)), (2, .int (nZ x2)), (3, .int (nZ x3))] [] M0 := by
    intro  n
    induction n with
    | zero =>
      intro x1 x2 x3 M0 hF
      have hF : (none : Option zM) = some M' := hF
      cases hF
    | succ n hk12 =>
      intro x1 x2 x3 M0 hF H locs ls hH hl
      have hF : sX3_forget_12 N (fun x1 x2 x3 M0 => fX3_forget_12 N n x1 x2 x3 M0) x1 x2 x3 M0 = some M' := hF
      unfold sX3_forget_12 at hF
      refine lv_iload_n hx hb dX3_forget_12 rfl (lv_at hl 3 rfl) ?_
      refine lv_iload_n hx hb dX3_forget_13 rfl (lv_at hl 2 rfl) ?_
      obtain ⟨h4, hF⟩ := zg_e hF
      obtain ⟨h5, hF⟩ := zg_e hF
      refine z_icmp_ge (tgt := 54) hx hb h4 h5 dX3_forget_14 (by decide) (fun hc => ?_) (fun hc => ?_)
      · have hF := zi_t hF hc
        exact z_vret hX hr hlocks hH hF dX3_forget_54
      · have hF := zi_f hF hc
        refine lv_aload_n hx hb dX3_forget_17 rfl (lv_at hl 0 rfl) ?_
        refine z_getr hX hH 0 2 3 rfl rfl flX3_forget_21 dX3_forget_18 ?_
        refine z_getr hX hH 3 1 5 rfl rfl flX3_forget_63 dX3_forget_21 ?_
        refine lv_iload_n hx hb dX3_forget_24 rfl (lv_at hl 1 rfl) ?_
        obtain ⟨h6, hF⟩ := zg_e hF
        refine z_iald hX hH 5 5 rfl h6 (by decide) dX3_forget_25 ?_
        refine lv_aload_n hx hb dX3_forget_26 rfl (lv_at hl 0 rfl) ?_
        refine z_getr hX hH 0 0 1 rfl rfl flX3_forget_9 dX3_forget_27 ?_
        refine z_iconst hx hb dX3_forget_30 ?_
        refine z_iald hX hH 1 4 rfl (by decide) (by decide) dX3_forget_31 ?_
        obtain ⟨h7, hF⟩ := zg_e hF
        obtain ⟨h8, hF⟩ := zg_e hF
        refine z_icmp_le (tgt := 54) hx hb h7 h8 dX3_forget_32 (by decide) (fun hc => ?_) (fun hc => ?_)
        · have hF := zi_t hF hc
          exact z_vret hX hr hlocks hH hF dX3_forget_54
        · have hF := zi_f hF hc
          refine lv_aload_n hx hb dX3_forget_35 rfl (lv_at hl 0 rfl) ?_
          refine lv_aload_n hx hb dX3_forget_36 rfl (lv_at hl 0 rfl) ?_
          refine z_getr hX hH 0 2 3 rfl rfl flX3_forget_21 dX3_forget_37 ?_
          refine lv_iload_n hx hb dX3_forget_40 rfl (lv_at hl 1 rfl) ?_
          obtain ⟨r11, M10, c9, hF⟩ := zc2_e hF
          obtain ⟨M12, eM12, hF⟩ := zl_e hF
          refine z_callVi (As := [.int (nZ x1)]) hX hH 3 2 em_LSt_is_3n5 (ctX2_oldest l D cs (zsb is_3n5 α) N (zpk is_3n5 M0) x1 r11 M10 c9) (cwV 1 hts gX3_forget_X2_oldest rfl rfl rfl (by decide +kernel) ⟨Nat.le_of_ble_eq_true rfl, Nat.le_of_ble_eq_true rfl⟩) rfl rfl rfl hl.1 (Nat.le_of_ble_eq_true rfl) rfl dX3_forget_41 ⟨Nat.zero_le _, Nat.zero_le _⟩ (fun H locs hH => ?_)
          rw [← eM12] at hH
          refine z_iconst hx hb dX3_forget_44 ?_
          obtain ⟨M14, c13, hF⟩ := zc_e hF
          refine z_sameVv (As := [.int (nZ r11), .int (nZ (0:Int))]) hX hH 0 3 (ctX3_move l D cs α N M12 r11 (0:Int) M14 c13) (cwV 2 hts gX3_forget_X3_move rfl rfl rfl (by decide +kernel) ⟨Nat.le_of_ble_eq_true rfl, Nat.le_of_ble_eq_true rfl⟩) rfl rfl rfl hl.1 (Nat.le_of_ble_eq_true rfl) rfl dX3_forget_45 ⟨Nat.zero_le _, Nat.zero_le _⟩ (fun H locs hH => ?_)
          obtain ⟨v15, ev15, hF⟩ := zl_e hF
          refine z_iinc ev15 (lv' := [(3, .int (nZ v15)), (0, .ref (α 0)), (1, .int (nZ x1)), (2, .int (nZ x2))]) hx hb dX3_forget_48 hl (k := 3) rfl (by decide) rfl (fun ls hl => ?_)
          refine lv_goto (tgt := 12) hx hb dX3_forget_51 (by decide) ?_
          exact hk12 x1 x2 v15 M14 hF _ _ _ hH (lv_sub hl [1, 2, 3, 0] rfl)
  have hl : lv_has ls 4 [(0, .ref (α 0)), (1, .int (nZ a1))] := hl
  unfold fX3_forget at hF
  refine lv_aload_n hx hb dX3_forget_0 rfl (lv_at hl 0 rfl) ?_
  refine z_getr hX hH 0 2 3 rfl rfl flX3_forget_21 dX3_forget_1 ?_
  refine z_getr hX hH 3 0 4 rfl rfl flX3_forget_60 dX3_forget_4 ?_
  refine lv_iload_n hx hb dX3_forget_7 rfl (lv_at hl 1 rfl) ?_
  obtain ⟨h1, hF⟩ := zg_e hF
  refine z_iald hX hH 4 5 rfl h1 (by decide) dX3_forget_8 ?_
  obtain ⟨v2, ev2, hF⟩ := zl_e hF
  refine z_istore_n ev2 (lv' := [(2, .int (nZ v2)), (0, .ref (α 0)), (1, .int (nZ a1))]) hx hb dX3_forget_9 rfl hl (by decide) rfl (fun ls hl => ?_)
  refine z_iconst hx hb dX3_forget_10 ?_
  obtain ⟨v3, ev3, hF⟩ := zl_e hF
  refine z_istore_n ev3 (lv' := [(3, .int (nZ v3)), (2, .int (nZ v2)), (0, .ref (α 0)), (1, .int (nZ a1))]) hx hb dX3_forget_11 rfl hl (by decide) rfl (fun ls hl => ?_)
  exact L12 N a1 v2 v3 M hF _ _ _ hH (lv_sub hl [2, 3, 1, 0] rfl)
set_option maxHeartbeats 4000000 in
set_option maxRecDepth 100000 in
theorem ctX3_trim (l : Launch) (D : va_G) (cs : Nat → ClassId) (α : Nat → Nat) (N : Nat) (M : zM) (M' : zM) (hF : fX3_trim N M = some M') : Met l yX3_trim wsX3_trim ({ frames := 3, cells := 0, slots := 0, locals := 71 }) (zPre D cs LSt α M [.ref (α 0)]) (zQv D cs LSt α M') 0 0 (zA LSt.length α) := by
  refine z_met (cc := cX3_trim) (maxL := 1) (ret := none) (by decide +kernel) rfl RX3 rfl (Nat.le_of_ble_eq_true rfl) ?_
  intro p e s m below meth c ls hX hr hlocks hH hl
  have hx := hX.1.1
  have hb := hX.1.2.1
  have hts := hX.1.2.2.2.2
  have hl : lv_has ls 1 [(0, .ref (α 0))] := hl
  unfold fX3_trim at hF
  refine lv_aload_n hx hb dX3_trim_0 rfl (lv_at hl 0 rfl) ?_
  obtain ⟨M2, c1, hF⟩ := zc_e hF
  refine z_sameVv (As := []) hX hH 0 3 (ctX3_demote l D cs α N M  M2 c1) (cwV 0 hts gX3_trim_X3_demote rfl rfl rfl (by decide +kernel) ⟨Nat.le_of_ble_eq_true rfl, Nat.le_of_ble_eq_true rfl⟩) rfl rfl rfl hl.1 (Nat.le_of_ble_eq_true rfl) rfl dX3_trim_1 ⟨Nat.zero_le _, Nat.zero_le _⟩ (fun H locs hH => ?_)
  refine lv_aload_n hx hb dX3_trim_4 rfl (lv_at hl 0 rfl) ?_
  obtain ⟨M4, c3, hF⟩ := zc_e hF
  refine z_sameVv (As := []) hX hH 0 3 (ctX3_makeRoom l D cs α N M2  M4 c3) (cwV 0 hts gX3_trim_X3_makeRoom rfl rfl rfl (by decide +kernel) ⟨Nat.le_of_ble_eq_true rfl, Nat.le_of_ble_eq_true rfl⟩) rfl rfl rfl hl.1 (Nat.le_of_ble_eq_true rfl) rfl dX3_trim_5 ⟨Nat.zero_le _, Nat.zero_le _⟩ (fun H locs hH => ?_)
  refine lv_aload_n hx hb dX3_trim_8 rfl (lv_at hl 0 rfl) ?_
  refine z_iconst hx hb dX3_trim_9 ?_
  obtain ⟨M6, c5, hF⟩ := zc_e hF
  refine z_sameVv (As := [.int (nZ (3:Int))]) hX hH 0 3 (ctX3_forget l D cs α N M4 (3:Int) M6 c5) (cwV 1 hts gX3_trim_X3_forget rfl rfl rfl (by decide +kernel) ⟨Nat.le_of_ble_eq_true rfl, Nat.le_of_ble_eq_true rfl⟩) rfl rfl rfl hl.1 (Nat.le_of_ble_eq_true rfl) rfl dX3_trim_10 ⟨Nat.zero_le _, Nat.zero_le _⟩ (fun H locs hH => ?_)
  refine lv_aload_n hx hb dX3_trim_13 rfl (lv_at hl 0 rfl) ?_
  refine z_iconst hx hb dX3_trim_14 ?_
  obtain ⟨M8, c7, hF⟩ := zc_e hF
  refine z_sameVv (As := [.int (nZ (4:Int))]) hX hH 0 3 (ctX3_forget l D cs α N M6 (4:Int) M8 c7) (cwV 1 hts gX3_trim_X3_forget rfl rfl rfl (by decide +kernel) ⟨Nat.le_of_ble_eq_true rfl, Nat.le_of_ble_eq_true rfl⟩) rfl rfl rfl hl.1 (Nat.le_of_ble_eq_true rfl) rfl dX3_trim_15 ⟨Nat.zero_le _, Nat.zero_le _⟩ (fun H locs hH => ?_)
  exact z_vret hX hr hlocks hH hF dX3_trim_18
theorem flX3_store_27 : zF RX3 wsX3_store 27 3 3 := ⟨_, TX3, _, rfl, by decide +kernel, by decide +kernel, by decide, rfl⟩
set_option maxHeartbeats 4000000 in
set_option maxRecDepth 100000 in
theorem ctX3_store (l : Launch) (D : va_G) (cs : Nat → ClassId) (α : Nat → Nat) (N : Nat) (M : zM) (a1 : Int) (a2 : Int) (a3 : Int) (a4 : Int) (r : Int) (M' : zM) (hF : fX3_store N a1 a2 a3 a4 M = some (r, M')) : Met l yX3_store wsX3_store ({ frames := 4, cells := 0, slots := 0, locals := 95 }) (zPre D cs LSt α M [.ref (α 0), .int (nZ a1), .int (nZ a2), .int (nZ a3), .int (nZ a4)]) (zQi D cs LSt α r M') 0 0 (zA LSt.length α) := by
  refine z_met (cc := cX3_store) (maxL := 6) (ret := (some .int)) (by decide +kernel) rfl RX3 rfl (Nat.le_of_ble_eq_true rfl) ?_
  intro p e s m below meth c ls hX hr hlocks hH hl
  have hx := hX.1.1
  have hb := hX.1.2.1
  have hts := hX.1.2.2.2.2
  have J62 : ∀ (M0 : zM), sX3_store_62 N M0 = some (r, M') → zGo p l e (headSpec wsX3_store ({ frames := 4, cells := 0, slots := 0, locals := 95 })).room s m ([.ref (α 0), .int (nZ a1), .int (nZ a2), .int (nZ a3), .int (nZ a4)] : List Value).toArray below meth c (MQ below (zQi D cs LSt α r M') ([.ref (α 0), .int (nZ a1), .int (nZ a2), .int (nZ a3), .int (nZ a4)] : List Value).toArray s 0 0 (zA LSt.length α)) D cs LSt α (zA LSt.length α) 6 62 [] [] M0 := by
    intro M0 hF H locs ls hH hl
    unfold sX3_store_62 at hF
    refine z_iconst hx hb dX3_store_62 ?_
    refine lv_goto (tgt := 67) hx hb dX3_store_63 (by decide) ?_
    exact z_iret hX hr hlocks hH hF rfl dX3_store_67
  have J39 : ∀ (x5 : Int) (M0 : zM), sX3_store_39 N x5 M0 = some (r, M') → zGo p l e (headSpec wsX3_store ({ frames := 4, cells := 0, slots := 0, locals := 95 })).room s m ([.ref (α 0), .int (nZ a1), .int (nZ a2), .int (nZ a3), .int (nZ a4)] : List Value).toArray below meth c (MQ below (zQi D cs LSt α r M') ([.ref (α 0), .int (nZ a1), .int (nZ a2), .int (nZ a3), .int (nZ a4)] : List Value).toArray s 0 0 (zA LSt.length α)) D cs LSt α (zA LSt.length α) 6 39 [(0, .ref (α 0)), (5, .int (nZ x5))] [] M0 := by
    intro x5 M0 hF H locs ls hH hl
    unfold sX3_store_39 at hF
    refine lv_aload_n hx hb dX3_store_39 rfl (lv_at hl 0 rfl) ?_
    obtain ⟨M10, c9, hF⟩ := zc_e hF
    refine z_sameVv (As := []) hX hH 0 3 (ctX3_trim l D cs α N M0  M10 c9) (cwV 0 hts gX3_store_X3_trim rfl rfl rfl (by decide +kernel) ⟨Nat.le_of_ble_eq_true rfl, Nat.le_of_ble_eq_true rfl⟩) rfl rfl rfl hl.1 (Nat.le_of_ble_eq_true rfl) rfl dX3_store_40 ⟨Nat.zero_le _, Nat.zero_le _⟩ (fun H locs hH => ?_)
    refine lv_iload hx hb dX3_store_43 (lv_at hl 1 rfl) ?_
    obtain ⟨h11, hF⟩ := zg_e hF
    refine z_if_ne (tgt := 50) hx hb h11 dX3_store_45 (by decide) (fun hc => ?_) (fun hc => ?_)
    · have hF := zi_f hF hc
      refine lv_iload hx hb dX3_store_50 (lv_at hl 1 rfl) ?_
      refine z_iconst hx hb dX3_store_52 ?_
      refine z_icmp_eq (tgt := 62) hx hb h11 (by decide) dX3_store_53 (by decide) (fun hc => ?_) (fun hc => ?_)
      · have hF := zi_t hF hc
        exact J62 M10 hF _ _ _ hH (lv_sub hl [] rfl)
      · have hF := zi_f hF hc
        refine lv_iload hx hb dX3_store_56 (lv_at hl 1 rfl) ?_
        refine z_iconst hx hb dX3_store_58 ?_
        refine z_icmp_ne (tgt := 66) hx hb h11 (by decide) dX3_store_59 (by decide) (fun hc => ?_) (fun hc => ?_)
        · have hF := zi_f hF hc
          refine z_iconst hx hb dX3_store_66 ?_
          exact z_iret hX hr hlocks hH hF rfl dX3_store_67
        · have hF := zi_t hF hc
          exact J62 M10 hF _ _ _ hH (lv_sub hl [] rfl)
    · have hF := zi_t hF hc
      refine z_iconst hx hb dX3_store_48 ?_
      exact z_iret hX hr hlocks hH hF rfl dX3_store_49
  have hl : lv_has ls 6 [(0, .ref (α 0)), (1, .int (nZ a1)), (2, .int (nZ a2)), (3, .int (nZ a3)), (4, .int (nZ a4))] := hl
  unfold fX3_store at hF
  refine lv_aload_n hx hb dX3_store_0 rfl (lv_at hl 0 rfl) ?_
  refine z_getr hX hH 0 3 8 rfl rfl flX3_store_27 dX3_store_1 ?_
  refine z_iconst hx hb dX3_store_4 ?_
  refine z_aald hX hH 8 4 9 rfl rfl rfl (by decide) (by decide) rfl dX3_store_5 ?_
  refine lv_iload_n hx hb dX3_store_6 rfl (lv_at hl 1 rfl) ?_
  obtain ⟨h1, hF⟩ := zg_e hF
  refine z_iald hX hH 9 400 rfl h1 (by decide) dX3_store_7 ?_
  obtain ⟨v2, ev2, hF⟩ := zl_e hF
  refine z_istore ev2 (lv' := [(5, .int (nZ v2)), (0, .ref (α 0)), (1, .int (nZ a1)), (2, .int (nZ a2)), (3, .int (nZ a3)), (4, .int (nZ a4))]) hx hb dX3_store_8 hl (by decide) rfl (fun ls hl => ?_)
  refine lv_aload_n hx hb dX3_store_10 rfl (lv_at hl 1 rfl) ?_
  refine lv_iload_n hx hb dX3_store_11 rfl (lv_at hl 2 rfl) ?_
  obtain ⟨r5, M4, c3, hF⟩ := zc2_e hF
  refine z_sameVi (As := [.int (nZ a1)]) hX hH 0 3 (ctX3_isThing l D cs α N M a1 r5 M4 c3) (cwV 1 hts gX3_store_X3_isThing rfl rfl rfl (by decide +kernel) ⟨Nat.le_of_ble_eq_true rfl, Nat.le_of_ble_eq_true rfl⟩) rfl rfl rfl hl.1 (Nat.le_of_ble_eq_true rfl) rfl dX3_store_12 ⟨Nat.zero_le _, Nat.zero_le _⟩ (fun H locs hH => ?_)
  obtain ⟨h6, hF⟩ := zg_e hF
  refine z_if_eq (tgt := 30) hx hb h6 dX3_store_15 (by decide) (fun hc => ?_) (fun hc => ?_)
  · have hF := zi_t hF hc
    refine lv_aload_n hx hb dX3_store_30 rfl (lv_at hl 1 rfl) ?_
    refine lv_iload_n hx hb dX3_store_31 rfl (lv_at hl 2 rfl) ?_
    refine lv_iload_n hx hb dX3_store_32 rfl (lv_at hl 3 rfl) ?_
    refine lv_iload_n hx hb dX3_store_33 rfl (lv_at hl 4 rfl) ?_
    refine lv_iload hx hb dX3_store_34 (lv_at hl 5 rfl) ?_
    obtain ⟨M8, c7, hF⟩ := zc_e hF
    refine z_sameVv (As := [.int (nZ a1), .int (nZ a2), .int (nZ a3), .int (nZ a4)]) hX hH 0 3 (ctX3_admit l D cs α N M4 a1 a2 a3 a4 M8 c7) (cwV 4 hts gX3_store_X3_admit rfl rfl rfl (by decide +kernel) ⟨Nat.le_of_ble_eq_true rfl, Nat.le_of_ble_eq_true rfl⟩) rfl rfl rfl hl.1 (Nat.le_of_ble_eq_true rfl) rfl dX3_store_36 ⟨Nat.zero_le _, Nat.zero_le _⟩ (fun H locs hH => ?_)
    exact J39 v2 M8 hF _ _ _ hH (lv_sub hl [1, 0] rfl)
  · have hF := zi_f hF hc
    refine lv_aload_n hx hb dX3_store_18 rfl (lv_at hl 1 rfl) ?_
    refine lv_iload_n hx hb dX3_store_19 rfl (lv_at hl 2 rfl) ?_
    refine lv_iload_n hx hb dX3_store_20 rfl (lv_at hl 3 rfl) ?_
    refine lv_iload_n hx hb dX3_store_21 rfl (lv_at hl 4 rfl) ?_
    refine lv_iload hx hb dX3_store_22 (lv_at hl 5 rfl) ?_
    obtain ⟨M13, c12, hF⟩ := zc_e hF
    refine z_sameVv (As := [.int (nZ a1), .int (nZ a2), .int (nZ a3), .int (nZ a4)]) hX hH 0 3 (ctX3_replace l D cs α N M4 a1 a2 a3 a4 M13 c12) (cwV 4 hts gX3_store_X3_replace rfl rfl rfl (by decide +kernel) ⟨Nat.le_of_ble_eq_true rfl, Nat.le_of_ble_eq_true rfl⟩) rfl rfl rfl hl.1 (Nat.le_of_ble_eq_true rfl) rfl dX3_store_24 ⟨Nat.zero_le _, Nat.zero_le _⟩ (fun H locs hH => ?_)
    refine lv_goto (tgt := 39) hx hb dX3_store_27 (by decide) ?_
    exact J39 v2 M13 hF _ _ _ hH (lv_sub hl [1, 0] rfl)
theorem flX3_fetch_15 : zF RX3 wsX3_fetch 15 3 1 := ⟨_, TX3, _, rfl, by decide +kernel, by decide +kernel, by decide, rfl⟩
theorem flX3_fetch_27 : zF RX3 wsX3_fetch 27 3 3 := ⟨_, TX3, _, rfl, by decide +kernel, by decide +kernel, by decide, rfl⟩
set_option maxHeartbeats 4000000 in
set_option maxRecDepth 100000 in
theorem ctX3_fetch (l : Launch) (D : va_G) (cs : Nat → ClassId) (α : Nat → Nat) (N : Nat) (M : zM) (a1 : Int) (r : Int) (M' : zM) (hF : fX3_fetch N a1 M = some (r, M')) : Met l yX3_fetch wsX3_fetch ({ frames := 4, cells := 0, slots := 0, locals := 91 }) (zPre D cs LSt α M [.ref (α 0), .int (nZ a1)]) (zQi D cs LSt α r M') 0 0 (zA LSt.length α) := by
  refine z_met (cc := cX3_fetch) (maxL := 2) (ret := (some .boolean)) (by decide +kernel) rfl RX3 rfl (Nat.le_of_ble_eq_true rfl) ?_
  intro p e s m below meth c ls hX hr hlocks hH hl
  have hx := hX.1.1
  have hb := hX.1.2.1
  have hts := hX.1.2.2.2.2
  have hl : lv_has ls 2 [(0, .ref (α 0)), (1, .int (nZ a1))] := hl
  unfold fX3_fetch at hF
  refine lv_aload_n hx hb dX3_fetch_0 rfl (lv_at hl 0 rfl) ?_
  refine lv_iload_n hx hb dX3_fetch_1 rfl (lv_at hl 1 rfl) ?_
  obtain ⟨r3, M2, c1, hF⟩ := zc2_e hF
  refine z_sameVi (As := [.int (nZ a1)]) hX hH 0 3 (ctX3_isThing l D cs α N M a1 r3 M2 c1) (cwV 1 hts gX3_fetch_X3_isThing rfl rfl rfl (by decide +kernel) ⟨Nat.le_of_ble_eq_true rfl, Nat.le_of_ble_eq_true rfl⟩) rfl rfl rfl hl.1 (Nat.le_of_ble_eq_true rfl) rfl dX3_fetch_2 ⟨Nat.zero_le _, Nat.zero_le _⟩ (fun H locs hH => ?_)
  obtain ⟨h4, hF⟩ := zg_e hF
  refine z_if_eq (tgt := 46) hx hb h4 dX3_fetch_5 (by decide) (fun hc => ?_) (fun hc => ?_)
  · have hF := zi_t hF hc
    refine lv_aload_n hx hb dX3_fetch_46 rfl (lv_at hl 0 rfl) ?_
    refine z_getr hX hH 0 1 2 rfl rfl flX3_fetch_15 dX3_fetch_47 ?_
    refine z_iconst hx hb dX3_fetch_50 ?_
    refine lv_dup2_11 hx hb dX3_fetch_51 rfl rfl ?_
    refine z_iald hX hH 2 5 rfl (by decide) (by decide) dX3_fetch_52 ?_
    refine z_iconst hx hb dX3_fetch_53 ?_
    refine z_iadd hx hb dX3_fetch_54 ?_
    obtain ⟨M5, eM5, hF⟩ := zl_e hF
    refine z_iast hX hH 2 5 eM5 rfl (by decide) (by decide) dX3_fetch_55 (fun H locs hH => ?_)
    refine lv_aload_n hx hb dX3_fetch_56 rfl (lv_at hl 0 rfl) ?_
    refine z_getr hX hH 0 3 8 rfl rfl flX3_fetch_27 dX3_fetch_57 ?_
    refine z_iconst hx hb dX3_fetch_60 ?_
    refine z_aald hX hH 8 4 9 rfl rfl rfl (by decide) (by decide) rfl dX3_fetch_61 ?_
    refine lv_iload_n hx hb dX3_fetch_62 rfl (lv_at hl 1 rfl) ?_
    obtain ⟨h6, hF⟩ := zg_e hF
    refine z_iald hX hH 9 400 rfl h6 (by decide) dX3_fetch_63 ?_
    obtain ⟨h7, hF⟩ := zg_e hF
    refine z_if_eq (tgt := 77) hx hb h7 dX3_fetch_64 (by decide) (fun hc => ?_) (fun hc => ?_)
    · have hF := zi_t hF hc
      refine z_iconst hx hb dX3_fetch_77 ?_
      exact z_iret hX hr hlocks hH hF rfl dX3_fetch_78
    · have hF := zi_f hF hc
      refine lv_aload_n hx hb dX3_fetch_67 rfl (lv_at hl 0 rfl) ?_
      refine z_getr hX hH 0 1 2 rfl rfl flX3_fetch_15 dX3_fetch_68 ?_
      refine z_iconst hx hb dX3_fetch_71 ?_
      refine lv_dup2_11 hx hb dX3_fetch_72 rfl rfl ?_
      refine z_iald hX hH 2 5 rfl (by decide) (by decide) dX3_fetch_73 ?_
      refine z_iconst hx hb dX3_fetch_74 ?_
      refine z_iadd hx hb dX3_fetch_75 ?_
      obtain ⟨M8, eM8, hF⟩ := zl_e hF
      refine z_iast hX hH 2 5 eM8 rfl (by decide) (by decide) dX3_fetch_76 (fun H locs hH => ?_)
      refine z_iconst hx hb dX3_fetch_77 ?_
      exact z_iret hX hr hlocks hH hF rfl dX3_fetch_78
  · have hF := zi_f hF hc
    refine lv_aload_n hx hb dX3_fetch_8 rfl (lv_at hl 0 rfl) ?_
    refine lv_iload_n hx hb dX3_fetch_9 rfl (lv_at hl 1 rfl) ?_
    obtain ⟨M10, c9, hF⟩ := zc_e hF
    refine z_sameVv (As := [.int (nZ a1)]) hX hH 0 3 (ctX3_hit l D cs α N M2 a1 M10 c9) (cwV 1 hts gX3_fetch_X3_hit rfl rfl rfl (by decide +kernel) ⟨Nat.le_of_ble_eq_true rfl, Nat.le_of_ble_eq_true rfl⟩) rfl rfl rfl hl.1 (Nat.le_of_ble_eq_true rfl) rfl dX3_fetch_10 ⟨Nat.zero_le _, Nat.zero_le _⟩ (fun H locs hH => ?_)
    refine lv_aload_n hx hb dX3_fetch_13 rfl (lv_at hl 0 rfl) ?_
    refine z_getr hX hH 0 1 2 rfl rfl flX3_fetch_15 dX3_fetch_14 ?_
    refine z_iconst hx hb dX3_fetch_17 ?_
    refine lv_dup2_11 hx hb dX3_fetch_18 rfl rfl ?_
    refine z_iald hX hH 2 5 rfl (by decide) (by decide) dX3_fetch_19 ?_
    refine lv_aload_n hx hb dX3_fetch_20 rfl (lv_at hl 0 rfl) ?_
    refine z_getr hX hH 0 3 8 rfl rfl flX3_fetch_27 dX3_fetch_21 ?_
    refine z_iconst hx hb dX3_fetch_24 ?_
    refine z_aald hX hH 8 4 11 rfl rfl rfl (by decide) (by decide) rfl dX3_fetch_25 ?_
    refine lv_iload_n hx hb dX3_fetch_26 rfl (lv_at hl 1 rfl) ?_
    obtain ⟨h11, hF⟩ := zg_e hF
    refine z_iald hX hH 11 400 rfl h11 (by decide) dX3_fetch_27 ?_
    refine z_iadd hx hb dX3_fetch_28 ?_
    obtain ⟨M12, eM12, hF⟩ := zl_e hF
    refine z_iast hX hH 2 5 eM12 rfl (by decide) (by decide) dX3_fetch_29 (fun H locs hH => ?_)
    refine lv_aload_n hx hb dX3_fetch_30 rfl (lv_at hl 0 rfl) ?_
    refine z_getr hX hH 0 1 2 rfl rfl flX3_fetch_15 dX3_fetch_31 ?_
    refine z_iconst hx hb dX3_fetch_34 ?_
    refine lv_dup2_11 hx hb dX3_fetch_35 rfl rfl ?_
    refine z_iald hX hH 2 5 rfl (by decide) (by decide) dX3_fetch_36 ?_
    refine z_iconst hx hb dX3_fetch_37 ?_
    refine z_iadd hx hb dX3_fetch_38 ?_
    obtain ⟨M13, eM13, hF⟩ := zl_e hF
    refine z_iast hX hH 2 5 eM13 rfl (by decide) (by decide) dX3_fetch_39 (fun H locs hH => ?_)
    refine lv_aload_n hx hb dX3_fetch_40 rfl (lv_at hl 0 rfl) ?_
    obtain ⟨M15, c14, hF⟩ := zc_e hF
    refine z_sameVv (As := []) hX hH 0 3 (ctX3_trim l D cs α N M13  M15 c14) (cwV 0 hts gX3_fetch_X3_trim rfl rfl rfl (by decide +kernel) ⟨Nat.le_of_ble_eq_true rfl, Nat.le_of_ble_eq_true rfl⟩) rfl rfl rfl hl.1 (Nat.le_of_ble_eq_true rfl) rfl dX3_fetch_41 ⟨Nat.zero_le _, Nat.zero_le _⟩ (fun H locs hH => ?_)
    refine z_iconst hx hb dX3_fetch_44 ?_
    exact z_iret hX hr hlocks hH hF rfl dX3_fetch_45
theorem flX3_perform_15 : zF RX3 wsX3_perform 15 3 1 := ⟨_, TX3, _, rfl, by decide +kernel, by decide +kernel, by decide, rfl⟩
theorem flX3_perform_131 : zF RX3 wsX3_perform 131 6 3 := ⟨_, TX6, _, rfl, by decide +kernel, by decide +kernel, by decide, rfl⟩
theorem flX3_perform_137 : zF RX3 wsX3_perform 137 6 1 := ⟨_, TX6, _, rfl, by decide +kernel, by decide +kernel, by decide, rfl⟩
theorem flX3_perform_140 : zF RX3 wsX3_perform 140 6 0 := ⟨_, TX6, _, rfl, by decide +kernel, by decide +kernel, by decide, rfl⟩
theorem em_LStTr_is_0n21 : zemb LStTr LSt is_0n21 = true := by decide +kernel
theorem flX3_perform_146 : zF RX3 wsX3_perform 146 6 2 := ⟨_, TX6, _, rfl, by decide +kernel, by decide +kernel, by decide, rfl⟩
theorem flX3_perform_9 : zF RX3 wsX3_perform 9 3 0 := ⟨_, TX3, _, rfl, by decide +kernel, by decide +kernel, by decide, rfl⟩
set_option maxHeartbeats 4000000 in
set_option maxRecDepth 100000 in
theorem ctX3_perform (l : Launch) (D : va_G) (cs : Nat → ClassId) (α : Nat → Nat) (N : Nat) (M : zM) (r : Int) (M' : zM) (hF : fX3_perform N M = some (r, M')) : Met l yX3_perform wsX3_perform ({ frames := 5, cells := 0, slots := 0, locals := 120 }) (zPre D cs LStTr α M [.ref (α 0), .ref (α 21)]) (zQi D cs LStTr α r M') 0 0 (zA LStTr.length α) := by
  refine z_met (cc := cX3_perform) (maxL := 5) (ret := (some .int)) (by decide +kernel) rfl RX3 rfl (Nat.le_of_ble_eq_true rfl) ?_
  intro p e s m below meth c ls hX hr hlocks hH hl
  have hx := hX.1.1
  have hb := hX.1.2.1
  have hts := hX.1.2.2.2.2
  have J106 : ∀ (k9 : Int → Int → zM → Option (Int × zM)) (hk9 : ∀ (x2 : Int) (x3 : Int) (M0 : zM), k9 x2 x3 M0 = some (r, M') → zGo p l e (headSpec wsX3_perform ({ frames := 5, cells := 0, slots := 0, locals := 120 })).room s m ([.ref (α 0), .ref (α 21)] : List Value).toArray below meth c (MQ below (zQi D cs LStTr α r M') ([.ref (α 0), .ref (α 21)] : List Value).toArray s 0 0 (zA LStTr.length α)) D cs LStTr α (zA LStTr.length α) 5 9 [(0, .ref (α 0)), (1, .ref (α 21)), (2, .int (nZ x2)), (3, .int (nZ x3))] [] M0) (x2 : Int) (x3 : Int) (M0 : zM), sX3_perform_106 N k9 x2 x3 M0 = some (r, M') → zGo p l e (headSpec wsX3_perform ({ frames := 5, cells := 0, slots := 0, locals := 120 })).room s m ([.ref (α 0), .ref (α 21)] : List Value).toArray below meth c (MQ below (zQi D cs LStTr α r M') ([.ref (α 0), .ref (α 21)] : List Value).toArray s 0 0 (zA LStTr.length α)) D cs LStTr α (zA LStTr.length α) 5 106 [(0, .ref (α 0)), (1, .ref (α 21)), (2, .int (nZ x2)), (3, .int (nZ x3))] [] M0 := by
    intro k9 hk9 x2 x3 M0 hF H locs ls hH hl
    unfold sX3_perform_106 at hF
    obtain ⟨v12, ev12, hF⟩ := zl_e hF
    refine z_iinc ev12 (lv' := [(3, .int (nZ v12)), (0, .ref (α 0)), (1, .ref (α 21)), (2, .int (nZ x2))]) hx hb dX3_perform_106 hl (k := 3) rfl (by decide) rfl (fun ls hl => ?_)
    refine lv_goto (tgt := 9) hx hb dX3_perform_109 (by decide) ?_
    exact hk9 x2 v12 M0 hF _ _ _ hH (lv_sub hl [1, 2, 3, 0] rfl)
  have L9 : ∀ (n : Nat) (x2 : Int) (x3 : Int) (M0 : zM), fX3_perform_9 N n x2 x3 M0 = some (r, M') → zGo p l e (headSpec wsX3_perform ({ frames := 5, cells := 0, slots := 0, locals := 120 })).room s m ([.ref (α 0), .ref (α 21)] : List Value).toArray below meth c (MQ below (zQi D cs LStTr α r M') ([.ref (α 0), .ref (α 21)] : List Value).toArray s 0 0 (zA LStTr.length α)) D cs LStTr α (zA LStTr.length α) 5 9 [(0, .ref (α 0)), (1, .ref (α 21)), (2, .int (nZ x2)), (3, .int (nZ x3))] [] M0 := by
    intro  n
    induction n with
    | zero =>
      intro x2 x3 M0 hF
      have hF : (none : Option (Int × zM)) = some (r, M') := hF
      cases hF
    | succ n hk9 =>
      intro x2 x3 M0 hF H locs ls hH hl
      have hF : sX3_perform_9 N (fun x2 x3 M0 => fX3_perform_9 N n x2 x3 M0) x2 x3 M0 = some (r, M') := hF
      unfold sX3_perform_9 at hF
      refine lv_iload_n hx hb dX3_perform_9 rfl (lv_at hl 3 rfl) ?_
      refine lv_aload_n hx hb dX3_perform_10 rfl (lv_at hl 1 rfl) ?_
      refine z_geti hX hH 21 3 rfl rfl flX3_perform_131 dX3_perform_11 ?_
      obtain ⟨h3, hF⟩ := zg_e hF
      obtain ⟨h4, hF⟩ := zg_e hF
      refine z_icmp_ge (tgt := 112) hx hb h3 h4 dX3_perform_14 (by decide) (fun hc => ?_) (fun hc => ?_)
      · have hF := zi_t hF hc
        refine lv_aload_n hx hb dX3_perform_112 rfl (lv_at hl 0 rfl) ?_
        refine z_getr hX hH 0 1 2 rfl rfl flX3_perform_15 dX3_perform_113 ?_
        refine z_iconst hx hb dX3_perform_116 ?_
        refine z_iald hX hH 2 5 rfl (by decide) (by decide) dX3_perform_117 ?_
        refine lv_iload_n hx hb dX3_perform_118 rfl (lv_at hl 2 rfl) ?_
        refine z_isub hx hb dX3_perform_119 ?_
        exact z_iret hX hr hlocks hH hF rfl dX3_perform_120
      · have hF := zi_f hF hc
        refine lv_aload_n hx hb dX3_perform_17 rfl (lv_at hl 1 rfl) ?_
        refine z_getr hX hH 21 1 23 rfl rfl flX3_perform_137 dX3_perform_18 ?_
        refine lv_iload_n hx hb dX3_perform_21 rfl (lv_at hl 3 rfl) ?_
        obtain ⟨h5, hF⟩ := zg_e hF
        refine z_iald hX hH 23 20 rfl h5 (by decide) dX3_perform_22 ?_
        obtain ⟨v6, ev6, hF⟩ := zl_e hF
        refine z_istore ev6 (lv' := [(4, .int (nZ v6)), (0, .ref (α 0)), (1, .ref (α 21)), (2, .int (nZ x2)), (3, .int (nZ x3))]) hx hb dX3_perform_23 hl (by decide) rfl (fun ls hl => ?_)
        refine lv_aload_n hx hb dX3_perform_25 rfl (lv_at hl 2 rfl) ?_
        refine z_getr hX hH 21 0 22 rfl rfl flX3_perform_140 dX3_perform_26 ?_
        refine lv_iload_n hx hb dX3_perform_29 rfl (lv_at hl 4 rfl) ?_
        refine z_iald hX hH 22 20 rfl h5 (by decide) dX3_perform_30 ?_
        obtain ⟨h7, hF⟩ := zg_e hF
        by_cases hc0 : (M0 22 x3.toNat) = (103:Int)
        · have hF := zi_t hF hc0
          refine z_lookIn (tgt := 56) (off := 25) (v := 103) hx hb hc0 (by decide) dX3_perform_31 (by decide +kernel) (by decide +kernel) (by decide) ?_
          refine lv_aload_n hx hb dX3_perform_56 rfl (lv_at hl 1 rfl) ?_
          refine lv_iload hx hb dX3_perform_57 (lv_at hl 0 rfl) ?_
          obtain ⟨r10, M9, c8, hF⟩ := zc2_e hF
          obtain ⟨M11, eM11, hF⟩ := zl_e hF
          refine z_callVi (As := [.int (nZ v6)]) hX hH 0 3 em_LStTr_is_0n21 (ctX3_fetch l D cs (zsb is_0n21 α) N (zpk is_0n21 M0) v6 r10 M9 c8) (cwV 1 hts gX3_perform_X3_fetch rfl rfl rfl (by decide +kernel) ⟨Nat.le_of_ble_eq_true rfl, Nat.le_of_ble_eq_true rfl⟩) rfl rfl rfl hl.1 (Nat.le_of_ble_eq_true rfl) rfl dX3_perform_59 ⟨Nat.zero_le _, Nat.zero_le _⟩ (fun H locs hH => ?_)
          rw [← eM11] at hH
          refine lv_pop hx hb dX3_perform_62 rfl ?_
          refine lv_goto (tgt := 106) hx hb dX3_perform_63 (by decide) ?_
          exact J106 (fun x2 x3 M0 => fX3_perform_9 N n x2 x3 M0) hk9 x2 x3 M11 hF _ _ _ hH (lv_sub hl [1, 2, 3, 4] rfl)
        have hF := zi_f hF hc0
        by_cases hc1 : (M0 22 x3.toNat) = (112:Int)
        · have hF := zi_t hF hc1
          refine z_lookIn (tgt := 66) (off := 35) (v := 112) hx hb hc1 (by decide) dX3_perform_31 (by decide +kernel) (by decide +kernel) (by decide) ?_
          refine lv_aload_n hx hb dX3_perform_66 rfl (lv_at hl 2 rfl) ?_
          refine z_getr hX hH 21 2 24 rfl rfl flX3_perform_146 dX3_perform_67 ?_
          refine lv_iload_n hx hb dX3_perform_70 rfl (lv_at hl 4 rfl) ?_
          refine z_iald hX hH 24 20 rfl h5 (by decide) dX3_perform_71 ?_
          refine lv_aload_n hx hb dX3_perform_72 rfl (lv_at hl 1 rfl) ?_
          refine z_getr hX hH 0 0 1 rfl rfl flX3_perform_9 dX3_perform_73 ?_
          refine z_iconst hx hb dX3_perform_76 ?_
          refine z_iald hX hH 1 4 rfl (by decide) (by decide) dX3_perform_77 ?_
          obtain ⟨h13, hF⟩ := zg_e hF
          obtain ⟨h14, hF⟩ := zg_e hF
          refine z_icmp_gt (tgt := 106) hx hb h13 h14 dX3_perform_78 (by decide) (fun hc => ?_) (fun hc => ?_)
          · have hF := zi_t hF hc
            exact J106 (fun x2 x3 M0 => fX3_perform_9 N n x2 x3 M0) hk9 x2 x3 M0 hF _ _ _ hH (lv_sub hl [1, 2, 3, 4] rfl)
          · have hF := zi_f hF hc
            refine lv_aload_n hx hb dX3_perform_81 rfl (lv_at hl 1 rfl) ?_
            refine lv_iload hx hb dX3_perform_82 (lv_at hl 0 rfl) ?_
            refine z_iconst hx hb dX3_perform_84 ?_
            refine lv_aload_n hx hb dX3_perform_85 rfl (lv_at hl 2 rfl) ?_
            refine z_getr hX hH 21 2 24 rfl rfl flX3_perform_146 dX3_perform_86 ?_
            refine lv_iload_n hx hb dX3_perform_89 rfl (lv_at hl 4 rfl) ?_
            refine z_iald hX hH 24 20 rfl h5 (by decide) dX3_perform_90 ?_
            refine z_iconst hx hb dX3_perform_91 ?_
            obtain ⟨r17, M16, c15, hF⟩ := zc2_e hF
            obtain ⟨M18, eM18, hF⟩ := zl_e hF
            refine z_callVi (As := [.int (nZ v6), .int (nZ (0:Int)), .int (nZ (M0 24 x3.toNat)), .int (nZ (1:Int))]) hX hH 0 3 em_LStTr_is_0n21 (ctX3_store l D cs (zsb is_0n21 α) N (zpk is_0n21 M0) v6 (0:Int) (M0 24 x3.toNat) (1:Int) r17 M16 c15) (cwV 4 hts gX3_perform_X3_store rfl rfl rfl (by decide +kernel) ⟨Nat.le_of_ble_eq_true rfl, Nat.le_of_ble_eq_true rfl⟩) rfl rfl rfl hl.1 (Nat.le_of_ble_eq_true rfl) rfl dX3_perform_92 ⟨Nat.zero_le _, Nat.zero_le _⟩ (fun H locs hH => ?_)
            rw [← eM18] at hH
            refine lv_pop hx hb dX3_perform_95 rfl ?_
            refine lv_goto (tgt := 106) hx hb dX3_perform_96 (by decide) ?_
            exact J106 (fun x2 x3 M0 => fX3_perform_9 N n x2 x3 M0) hk9 x2 x3 M18 hF _ _ _ hH (lv_sub hl [1, 2, 3, 4] rfl)
        have hF := zi_f hF hc1
        refine z_lookOut2 (tgt := 99) hx hb h7 hc0 hc1 (by decide) (by decide) dX3_perform_31 (by decide +kernel) (by decide) ?_
        refine lv_aload_n hx hb dX3_perform_99 rfl (lv_at hl 1 rfl) ?_
        refine lv_iload hx hb dX3_perform_100 (lv_at hl 0 rfl) ?_
        refine z_iconst hx hb dX3_perform_102 ?_
        obtain ⟨M20, c19, hF⟩ := zc_e hF
        obtain ⟨M21, eM21, hF⟩ := zl_e hF
        refine z_callVv (As := [.int (nZ v6), .int (nZ (0:Int))]) hX hH 0 3 em_LStTr_is_0n21 (ctX3_move l D cs (zsb is_0n21 α) N (zpk is_0n21 M0) v6 (0:Int) M20 c19) (cwV 2 hts gX3_perform_X3_move rfl rfl rfl (by decide +kernel) ⟨Nat.le_of_ble_eq_true rfl, Nat.le_of_ble_eq_true rfl⟩) rfl rfl rfl hl.1 (Nat.le_of_ble_eq_true rfl) rfl dX3_perform_103 ⟨Nat.zero_le _, Nat.zero_le _⟩ (fun H locs hH => ?_)
        rw [← eM21] at hH
        exact J106 (fun x2 x3 M0 => fX3_perform_9 N n x2 x3 M0) hk9 x2 x3 M21 hF _ _ _ hH (lv_sub hl [1, 2, 3, 4] rfl)
  have hl : lv_has ls 5 [(0, .ref (α 0)), (1, .ref (α 21))] := hl
  unfold fX3_perform at hF
  refine lv_aload_n hx hb dX3_perform_0 rfl (lv_at hl 0 rfl) ?_
  refine z_getr hX hH 0 1 2 rfl rfl flX3_perform_15 dX3_perform_1 ?_
  refine z_iconst hx hb dX3_perform_4 ?_
  refine z_iald hX hH 2 5 rfl (by decide) (by decide) dX3_perform_5 ?_
  obtain ⟨v1, ev1, hF⟩ := zl_e hF
  refine z_istore_n ev1 (lv' := [(2, .int (nZ v1)), (0, .ref (α 0)), (1, .ref (α 21))]) hx hb dX3_perform_6 rfl hl (by decide) rfl (fun ls hl => ?_)
  refine z_iconst hx hb dX3_perform_7 ?_
  obtain ⟨v2, ev2, hF⟩ := zl_e hF
  refine z_istore_n ev2 (lv' := [(3, .int (nZ v2)), (2, .int (nZ v1)), (0, .ref (α 0)), (1, .ref (α 21))]) hx hb dX3_perform_8 rfl hl (by decide) rfl (fun ls hl => ?_)
  exact L9 N v1 v2 M hF _ _ _ hH (lv_sub hl [2, 3, 1, 0] rfl)
