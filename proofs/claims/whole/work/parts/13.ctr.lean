/-! laid by wip/whole/gen.py: contracts -/
set_option maxHeartbeats 4000000 in
set_option maxRecDepth 100000 in
theorem ctX7_leastOf (l : Launch) (D : va_G) (cs : Nat → ClassId) (α : Nat → Nat) (N : Nat) (M : zM) (a1 : Int) (r : Int) (hF : fX7_leastOf N a1 = some r) : Met l yX7_leastOf wsX7_leastOf ({ frames := 0, cells := 0, slots := 0, locals := 0 }) (zPre D cs LNo α M [.int (nZ a1)]) (zQi D cs LNo α r M) 0 0 (zA LNo.length α) := by
  refine z_met (cc := cX7_leastOf) (maxL := 1) (ret := (some .int)) (by decide +kernel) rfl RX7 rfl (Nat.le_of_ble_eq_true rfl) ?_
  intro p e s m below meth c ls hX hr hlocks hH hl
  have hx := hX.1.1
  have hb := hX.1.2.1
  have hts := hX.1.2.2.2.2
  have J9 : sX7_leastOf_9 N  = some r → zGo p l e (headSpec wsX7_leastOf ({ frames := 0, cells := 0, slots := 0, locals := 0 })).room s m ([.int (nZ a1)] : List Value).toArray below meth c (MQ below (zQi D cs LNo α r M) ([.int (nZ a1)] : List Value).toArray s 0 0 (zA LNo.length α)) D cs LNo α (zA LNo.length α) 1 9 [] [] M := by
    intro  hF H locs ls hH hl
    unfold sX7_leastOf_9 at hF
    refine z_iconst hx hb dX7_leastOf_9 ?_
    refine lv_goto (tgt := 14) hx hb dX7_leastOf_10 (by decide) ?_
    exact z_iretP hX hr hlocks hH hF rfl dX7_leastOf_14
  have hl : lv_has ls 1 [(0, .int (nZ a1))] := hl
  unfold fX7_leastOf at hF
  refine lv_iload_n hx hb dX7_leastOf_0 rfl (lv_at hl 0 rfl) ?_
  obtain ⟨h1, hF⟩ := zg_e hF
  refine z_if_eq (tgt := 9) hx hb h1 dX7_leastOf_1 (by decide) (fun hc => ?_) (fun hc => ?_)
  · have hF := zi_t hF hc
    exact J9  hF _ _ _ hH (lv_sub hl [] rfl)
  · have hF := zi_f hF hc
    refine lv_iload_n hx hb dX7_leastOf_4 rfl (lv_at hl 0 rfl) ?_
    refine z_iconst hx hb dX7_leastOf_5 ?_
    refine z_icmp_ne (tgt := 13) hx hb h1 (by decide) dX7_leastOf_6 (by decide) (fun hc => ?_) (fun hc => ?_)
    · have hF := zi_f hF hc
      refine z_iconst hx hb dX7_leastOf_13 ?_
      exact z_iretP hX hr hlocks hH hF rfl dX7_leastOf_14
    · have hF := zi_t hF hc
      exact J9  hF _ _ _ hH (lv_sub hl [] rfl)
theorem flX7_mostOf_14 : zF RX7 wsX7_mostOf 14 7 0 := ⟨_, TX7, _, rfl, by decide +kernel, by decide +kernel, by decide, rfl⟩
theorem flX7_mostOf_49 : zF RX7 wsX7_mostOf 49 3 0 := ⟨_, TX3, _, rfl, by decide +kernel, by decide +kernel, by decide, rfl⟩
set_option maxHeartbeats 4000000 in
set_option maxRecDepth 100000 in
theorem ctX7_mostOf (l : Launch) (κ : Bool) (D : va_G) (cs : Nat → ClassId) (α : Nat → Nat) (N : Nat) (M : zM) (a1 : Int) (r : Int) (M' : zM) (hF : fX7_mostOf N a1 M = some (r, M')) : Met l yX7_mostOf wsX7_mostOf ({ frames := 0, cells := 0, slots := 0, locals := 0 }) (zPre D cs (LX κ) α M [.ref (α 0), .int (nZ a1)]) (zQi D cs (LX κ) α r M') 0 0 (zA (LX κ).length α) := by
  refine z_met (cc := cX7_mostOf) (maxL := 2) (ret := (some .int)) (by decide +kernel) rfl RX7 rfl (Nat.le_of_ble_eq_true rfl) ?_
  intro p e s m below meth c ls hX hr hlocks hH hl
  have hx := hX.1.1
  have hb := hX.1.2.1
  have hts := hX.1.2.2.2.2
  have hl : lv_has ls 2 [(0, .ref (α 0)), (1, .int (nZ a1))] := hl
  unfold fX7_mostOf at hF
  refine lv_iload_n hx hb dX7_mostOf_0 rfl (lv_at hl 1 rfl) ?_
  obtain ⟨h1, hF⟩ := zg_e hF
  by_cases hc : a1 < (0:Int) ∨ (2:Int) < a1
  · have hF := zi_t hF hc
    refine z_tableOut (tgt := 44) hx hb h1 hc dX7_mostOf_1 (by decide) ?_
    refine z_bipush (v := 9) hx hb dX7_mostOf_44 (by decide +kernel) ?_
    exact z_iret hX hr hlocks hH hF rfl dX7_mostOf_46
  have hF := zi_f hF hc
  by_cases hc : a1 = (0:Int)
  · have hF := zi_t hF hc
    refine z_tableIn (tgt := 28) (v := 0) hx hb hc (by decide) dX7_mostOf_1 (by decide +kernel) (by decide +kernel) rfl (by decide) ?_
    refine z_bipush (v := 99) hx hb dX7_mostOf_28 (by decide +kernel) ?_
    exact z_iret hX hr hlocks hH hF rfl dX7_mostOf_30
  have hF := zi_f hF hc
  by_cases hc : a1 = (1:Int)
  · have hF := zi_t hF hc
    refine z_tableIn (tgt := 31) (v := 1) hx hb hc (by decide) dX7_mostOf_1 (by decide +kernel) (by decide +kernel) rfl (by decide) ?_
    refine lv_aload_n hx hb dX7_mostOf_31 rfl (lv_at hl 0 rfl) ?_
    refine z_getr hX hH 0 0 1 rfl rfl flX7_mostOf_14 dX7_mostOf_32 ?_
    refine z_getr hX hH 1 0 2 rfl rfl flX7_mostOf_49 dX7_mostOf_35 ?_
    refine z_iconst hx hb dX7_mostOf_38 ?_
    refine z_iald hX hH 2 4 rfl (by decide) (by decide) dX7_mostOf_39 ?_
    exact z_iret hX hr hlocks hH hF rfl dX7_mostOf_40
  have hF := zi_f hF hc
  by_cases hc : a1 = (2:Int)
  · have hF := zi_t hF hc
    refine z_tableIn (tgt := 41) (v := 2) hx hb hc (by decide) dX7_mostOf_1 (by decide +kernel) (by decide +kernel) rfl (by decide) ?_
    refine z_bipush (v := 9) hx hb dX7_mostOf_41 (by decide +kernel) ?_
    exact z_iret hX hr hlocks hH hF rfl dX7_mostOf_43
  have hF := zi_f hF hc
  cases hF
theorem flX7_set_14 : zF RX7 wsX7_set 14 7 0 := ⟨_, TX7, _, rfl, by decide +kernel, by decide +kernel, by decide, rfl⟩
theorem flX7_set_49 : zF RX7 wsX7_set 49 3 0 := ⟨_, TX3, _, rfl, by decide +kernel, by decide +kernel, by decide, rfl⟩
theorem em_LX_is_1n21 (κ : Bool) : zemb (LX κ) LSt is_1n21 = true := by cases κ <;> decide +kernel
set_option maxHeartbeats 4000000 in
set_option maxRecDepth 100000 in
theorem ctX7_set (l : Launch) (κ : Bool) (D : va_G) (cs : Nat → ClassId) (α : Nat → Nat) (N : Nat) (M : zM) (a1 : Int) (a2 : Int) (r : Int) (M' : zM) (hF : fX7_set N a1 a2 M = some (r, M')) : Met l yX7_set wsX7_set ({ frames := 4, cells := 0, slots := 0, locals := 91 }) (zPre D cs (LX κ) α M [.ref (α 0), .int (nZ a1), .int (nZ a2)]) (zQi D cs (LX κ) α r M') 0 0 (zA (LX κ).length α) := by
  refine z_met (cc := cX7_set) (maxL := 4) (ret := (some .int)) (by decide +kernel) rfl RX7 rfl (Nat.le_of_ble_eq_true rfl) ?_
  intro p e s m below meth c ls hX hr hlocks hH hl
  have hx := hX.1.1
  have hb := hX.1.2.1
  have hts := hX.1.2.2.2.2
  have J93 : ∀ (x3 : Int) (M0 : zM), sX7_set_93 N x3 M0 = some (r, M') → zGo p l e (headSpec wsX7_set ({ frames := 4, cells := 0, slots := 0, locals := 91 })).room s m ([.ref (α 0), .int (nZ a1), .int (nZ a2)] : List Value).toArray below meth c (MQ below (zQi D cs (LX κ) α r M') ([.ref (α 0), .int (nZ a1), .int (nZ a2)] : List Value).toArray s 0 0 (zA (LX κ).length α)) D cs (LX κ) α (zA (LX κ).length α) 4 93 [(3, .int (nZ x3))] [] M0 := by
    intro x3 M0 hF H locs ls hH hl
    unfold sX7_set_93 at hF
    refine lv_iload_n hx hb dX7_set_93 rfl (lv_at hl 0 rfl) ?_
    exact z_iret hX hr hlocks hH hF rfl dX7_set_94
  have J86 : ∀ (x3 : Int) (M0 : zM), sX7_set_86 N x3 M0 = some (r, M') → zGo p l e (headSpec wsX7_set ({ frames := 4, cells := 0, slots := 0, locals := 91 })).room s m ([.ref (α 0), .int (nZ a1), .int (nZ a2)] : List Value).toArray below meth c (MQ below (zQi D cs (LX κ) α r M') ([.ref (α 0), .int (nZ a1), .int (nZ a2)] : List Value).toArray s 0 0 (zA (LX κ).length α)) D cs (LX κ) α (zA (LX κ).length α) 4 86 [(0, .ref (α 0)), (3, .int (nZ x3))] [] M0 := by
    intro x3 M0 hF H locs ls hH hl
    unfold sX7_set_86 at hF
    refine lv_aload_n hx hb dX7_set_86 rfl (lv_at hl 0 rfl) ?_
    refine z_getr hX hH 0 0 1 rfl rfl flX7_set_14 dX7_set_87 ?_
    obtain ⟨M15, c14, hF⟩ := zc_e hF
    obtain ⟨M16, eM16, hF⟩ := zl_e hF
    refine z_callVv (As := []) hX hH 1 3 (em_LX_is_1n21 κ) (ctX3_trim l D cs (zsb is_1n21 α) N (zpk is_1n21 M0)  M15 c14) (cwV 0 hts gX7_set_X3_trim rfl rfl rfl (by decide +kernel) ⟨Nat.le_of_ble_eq_true rfl, Nat.le_of_ble_eq_true rfl⟩) rfl rfl rfl hl.1 (Nat.le_of_ble_eq_true rfl) rfl dX7_set_90 ⟨Nat.zero_le _, Nat.zero_le _⟩ (fun H locs hH => ?_)
    rw [← eM16] at hH
    exact J93 x3 M16 hF _ _ _ hH (lv_sub hl [1] rfl)
  have J77 : ∀ (x1 : Int) (x3 : Int) (M0 : zM), sX7_set_77 N x1 x3 M0 = some (r, M') → zGo p l e (headSpec wsX7_set ({ frames := 4, cells := 0, slots := 0, locals := 91 })).room s m ([.ref (α 0), .int (nZ a1), .int (nZ a2)] : List Value).toArray below meth c (MQ below (zQi D cs (LX κ) α r M') ([.ref (α 0), .int (nZ a1), .int (nZ a2)] : List Value).toArray s 0 0 (zA (LX κ).length α)) D cs (LX κ) α (zA (LX κ).length α) 4 77 [(0, .ref (α 0)), (1, .int (nZ x1)), (3, .int (nZ x3))] [] M0 := by
    intro x1 x3 M0 hF H locs ls hH hl
    unfold sX7_set_77 at hF
    refine lv_iload_n hx hb dX7_set_77 rfl (lv_at hl 1 rfl) ?_
    obtain ⟨h13, hF⟩ := zg_e hF
    refine z_if_eq (tgt := 86) hx hb h13 dX7_set_78 (by decide) (fun hc => ?_) (fun hc => ?_)
    · have hF := zi_t hF hc
      exact J86 x3 M0 hF _ _ _ hH (lv_sub hl [0, 2] rfl)
    · have hF := zi_f hF hc
      refine lv_iload_n hx hb dX7_set_81 rfl (lv_at hl 1 rfl) ?_
      refine z_iconst hx hb dX7_set_82 ?_
      refine z_icmp_ne (tgt := 93) hx hb h13 (by decide) dX7_set_83 (by decide) (fun hc => ?_) (fun hc => ?_)
      · have hF := zi_f hF hc
        exact J93 x3 M0 hF _ _ _ hH (lv_sub hl [2] rfl)
      · have hF := zi_t hF hc
        exact J86 x3 M0 hF _ _ _ hH (lv_sub hl [0, 2] rfl)
  have hl : lv_has ls 4 [(0, .ref (α 0)), (1, .int (nZ a1)), (2, .int (nZ a2))] := hl
  unfold fX7_set at hF
  refine lv_iload_n hx hb dX7_set_0 rfl (lv_at hl 1 rfl) ?_
  obtain ⟨h1, hF⟩ := zg_e hF
  refine z_if_lt (tgt := 9) hx hb h1 dX7_set_1 (by decide) (fun hc => ?_) (fun hc => ?_)
  · have hF := zi_t hF hc
    refine z_iconst hx hb dX7_set_9 ?_
    exact z_iret hX hr hlocks hH hF rfl dX7_set_10
  · have hF := zi_f hF hc
    refine lv_iload_n hx hb dX7_set_4 rfl (lv_at hl 1 rfl) ?_
    refine z_iconst hx hb dX7_set_5 ?_
    refine z_icmp_lt (tgt := 11) hx hb h1 (by decide) dX7_set_6 (by decide) (fun hc => ?_) (fun hc => ?_)
    · have hF := zi_t hF hc
      refine lv_iload_n hx hb dX7_set_11 rfl (lv_at hl 2 rfl) ?_
      refine lv_iload_n hx hb dX7_set_12 rfl (lv_at hl 1 rfl) ?_
      obtain ⟨r2, c3, hF⟩ := zc_e hF
      refine z_callSi (As := [.int (nZ a1)]) (is := []) (Ll := []) hX hH rfl (ctX7_leastOf l D cs (zsb [] α) N (zpk [] M) a1 r2 c3) (va_cwS 1 hts gX7_set_X7_leastOf rfl rfl rfl (by decide +kernel) ⟨Nat.le_of_ble_eq_true rfl, Nat.le_of_ble_eq_true rfl⟩) rfl hl.1 (Nat.le_of_ble_eq_true rfl) rfl dX7_set_13 ⟨Nat.zero_le _, Nat.zero_le _⟩ (fun H locs hH => ?_)
      have hH : zH D cs (LX κ) α M (zA (LX κ).length α) s H locs := hH
      obtain ⟨h4, hF⟩ := zg_e hF
      obtain ⟨h5, hF⟩ := zg_e hF
      refine z_icmp_lt (tgt := 28) hx hb h4 h5 dX7_set_16 (by decide) (fun hc => ?_) (fun hc => ?_)
      · have hF := zi_t hF hc
        refine z_bipush (v := -2) hx hb dX7_set_28 (by decide +kernel) ?_
        exact z_iret hX hr hlocks hH hF rfl dX7_set_30
      · have hF := zi_f hF hc
        refine lv_iload_n hx hb dX7_set_19 rfl (lv_at hl 2 rfl) ?_
        refine lv_aload_n hx hb dX7_set_20 rfl (lv_at hl 0 rfl) ?_
        refine lv_iload_n hx hb dX7_set_21 rfl (lv_at hl 1 rfl) ?_
        obtain ⟨r8, M7, c6, hF⟩ := zc2_e hF
        refine z_sameVi (As := [.int (nZ a1)]) hX hH 0 7 (ctX7_mostOf l κ D cs α N M a1 r8 M7 c6) (cwV 1 hts gX7_set_X7_mostOf rfl rfl rfl (by decide +kernel) ⟨Nat.le_of_ble_eq_true rfl, Nat.le_of_ble_eq_true rfl⟩) rfl rfl rfl hl.1 (Nat.le_of_ble_eq_true rfl) rfl dX7_set_22 ⟨Nat.zero_le _, Nat.zero_le _⟩ (fun H locs hH => ?_)
        obtain ⟨h9, hF⟩ := zg_e hF
        refine z_icmp_le (tgt := 31) hx hb h4 h9 dX7_set_25 (by decide) (fun hc => ?_) (fun hc => ?_)
        · have hF := zi_t hF hc
          refine lv_aload_n hx hb dX7_set_31 rfl (lv_at hl 0 rfl) ?_
          refine z_getr hX hH 0 0 1 rfl rfl flX7_set_14 dX7_set_32 ?_
          refine z_getr hX hH 1 0 2 rfl rfl flX7_set_49 dX7_set_35 ?_
          refine lv_iload_n hx hb dX7_set_38 rfl (lv_at hl 1 rfl) ?_
          obtain ⟨h10, hF⟩ := zg_e hF
          refine z_iald hX hH 2 4 rfl h10 (by decide) dX7_set_39 ?_
          obtain ⟨v11, ev11, hF⟩ := zl_e hF
          refine z_istore_n ev11 (lv' := [(3, .int (nZ v11)), (0, .ref (α 0)), (1, .int (nZ a1)), (2, .int (nZ a2))]) hx hb dX7_set_40 rfl hl (by decide) rfl (fun ls hl => ?_)
          refine lv_aload_n hx hb dX7_set_41 rfl (lv_at hl 1 rfl) ?_
          refine z_getr hX hH 0 0 1 rfl rfl flX7_set_14 dX7_set_42 ?_
          refine z_getr hX hH 1 0 2 rfl rfl flX7_set_49 dX7_set_45 ?_
          refine lv_iload_n hx hb dX7_set_48 rfl (lv_at hl 2 rfl) ?_
          refine lv_iload_n hx hb dX7_set_49 rfl (lv_at hl 3 rfl) ?_
          obtain ⟨M12, eM12, hF⟩ := zl_e hF
          refine z_iast hX hH 2 4 eM12 rfl h10 (by decide) dX7_set_50 (fun H locs hH => ?_)
          refine lv_iload_n hx hb dX7_set_51 rfl (lv_at hl 2 rfl) ?_
          refine z_if_ne (tgt := 77) hx hb h1 dX7_set_52 (by decide) (fun hc => ?_) (fun hc => ?_)
          · have hF := zi_f hF hc
            exact J77 a1 v11 M12 hF _ _ _ hH (lv_sub hl [1, 2, 0] rfl)
          · have hF := zi_t hF hc
            refine lv_aload_n hx hb dX7_set_55 rfl (lv_at hl 1 rfl) ?_
            refine z_getr hX hH 0 0 1 rfl rfl flX7_set_14 dX7_set_56 ?_
            refine z_getr hX hH 1 0 2 rfl rfl flX7_set_49 dX7_set_59 ?_
            refine z_iconst hx hb dX7_set_62 ?_
            refine lv_aload_n hx hb dX7_set_63 rfl (lv_at hl 1 rfl) ?_
            refine z_getr hX hH 0 0 1 rfl rfl flX7_set_14 dX7_set_64 ?_
            refine z_getr hX hH 1 0 2 rfl rfl flX7_set_49 dX7_set_67 ?_
            refine z_iconst hx hb dX7_set_70 ?_
            refine z_iald hX hH 2 4 rfl (by decide) (by decide) dX7_set_71 ?_
            refine lv_iload_n hx hb dX7_set_72 rfl (lv_at hl 3 rfl) ?_
            obtain ⟨h17, hF⟩ := zg_e hF
            refine z_min hX hl.1 (hts (.methodLink RX7 53 Lib.Math.min.name) (by decide +kernel)) (hts (.static Lib.Math.min.name) (by decide +kernel)) (hts (.initialized "java/lang/Math") (by decide +kernel)) (hts (.code Lib.Math.min.name Lib.Math.min.code 2 (some .int)) (by decide +kernel)) (Nat.le_of_ble_eq_true rfl) (Nat.le_of_ble_eq_true rfl) h17 h4 dX7_set_73 ?_
            obtain ⟨M18, eM18, hF⟩ := zl_e hF
            refine z_iast hX hH 2 4 eM18 rfl (by decide) (by decide) dX7_set_76 (fun H locs hH => ?_)
            exact J77 a1 v11 M18 hF _ _ _ hH (lv_sub hl [1, 2, 0] rfl)
        · have hF := zi_f hF hc
          refine z_bipush (v := -2) hx hb dX7_set_28 (by decide +kernel) ?_
          exact z_iret hX hr hlocks hH hF rfl dX7_set_30
    · have hF := zi_f hF hc
      refine z_iconst hx hb dX7_set_9 ?_
      exact z_iret hX hr hlocks hH hF rfl dX7_set_10
theorem flX7_told_14 : zF RX7 wsX7_told 14 7 0 := ⟨_, TX7, _, rfl, by decide +kernel, by decide +kernel, by decide, rfl⟩
theorem flX7_told_74 : zF RX7 wsX7_told 74 3 4 := ⟨_, TX3, _, rfl, by decide +kernel, by decide +kernel, by decide, rfl⟩
theorem flX7_told_78 : zF RX7 wsX7_told 78 1 1 := ⟨_, TX1, _, rfl, by decide +kernel, by decide +kernel, by decide, rfl⟩
theorem flX7_told_71 : zF RX7 wsX7_told 71 3 1 := ⟨_, TX3, _, rfl, by decide +kernel, by decide +kernel, by decide, rfl⟩
theorem flX7_told_62 : zF RX7 wsX7_told 62 3 2 := ⟨_, TX3, _, rfl, by decide +kernel, by decide +kernel, by decide, rfl⟩
theorem flX7_told_66 : zF RX7 wsX7_told 66 2 1 := ⟨_, TX2, _, rfl, by decide +kernel, by decide +kernel, by decide, rfl⟩
theorem flX7_told_49 : zF RX7 wsX7_told 49 3 0 := ⟨_, TX3, _, rfl, by decide +kernel, by decide +kernel, by decide, rfl⟩
set_option maxHeartbeats 4000000 in
set_option maxRecDepth 100000 in
theorem ctX7_told (l : Launch) (κ : Bool) (D : va_G) (cs : Nat → ClassId) (α : Nat → Nat) (N : Nat) (M : zM) (a1 : Int) (r : Int) (M' : zM) (hF : fX7_told N a1 M = some (r, M')) : Met l yX7_told wsX7_told ({ frames := 0, cells := 0, slots := 0, locals := 0 }) (zPre D cs (LX κ) α M [.ref (α 0), .int (nZ a1)]) (zQi D cs (LX κ) α r M') 0 0 (zA (LX κ).length α) := by
  refine z_met (cc := cX7_told) (maxL := 2) (ret := (some .int)) (by decide +kernel) rfl RX7 rfl (Nat.le_of_ble_eq_true rfl) ?_
  intro p e s m below meth c ls hX hr hlocks hH hl
  have hx := hX.1.1
  have hb := hX.1.2.1
  have hts := hX.1.2.2.2.2
  have hl : lv_has ls 2 [(0, .ref (α 0)), (1, .int (nZ a1))] := hl
  unfold fX7_told at hF
  refine lv_iload_n hx hb dX7_told_0 rfl (lv_at hl 1 rfl) ?_
  obtain ⟨h1, hF⟩ := zg_e hF
  refine z_if_lt (tgt := 10) hx hb h1 dX7_told_1 (by decide) (fun hc => ?_) (fun hc => ?_)
  · have hF := zi_t hF hc
    refine z_iconst hx hb dX7_told_10 ?_
    exact z_iret hX hr hlocks hH hF rfl dX7_told_11
  · have hF := zi_f hF hc
    refine lv_iload_n hx hb dX7_told_4 rfl (lv_at hl 1 rfl) ?_
    refine z_bipush (v := 13) hx hb dX7_told_5 (by decide +kernel) ?_
    refine z_icmp_le (tgt := 12) hx hb h1 (by decide) dX7_told_7 (by decide) (fun hc => ?_) (fun hc => ?_)
    · have hF := zi_t hF hc
      refine lv_iload_n hx hb dX7_told_12 rfl (lv_at hl 1 rfl) ?_
      refine z_iconst hx hb dX7_told_13 ?_
      refine z_icmp_ge (tgt := 27) hx hb h1 (by decide) dX7_told_14 (by decide) (fun hc => ?_) (fun hc => ?_)
      · have hF := zi_t hF hc
        refine lv_iload_n hx hb dX7_told_27 rfl (lv_at hl 1 rfl) ?_
        refine z_bipush (v := 8) hx hb dX7_told_28 (by decide +kernel) ?_
        refine z_icmp_ge (tgt := 50) hx hb h1 (by decide) dX7_told_30 (by decide) (fun hc => ?_) (fun hc => ?_)
        · have hF := zi_t hF hc
          refine lv_iload_n hx hb dX7_told_50 rfl (lv_at hl 1 rfl) ?_
          refine z_bipush (v := 13) hx hb dX7_told_51 (by decide +kernel) ?_
          refine z_icmp_ge (tgt := 69) hx hb h1 (by decide) dX7_told_53 (by decide) (fun hc => ?_) (fun hc => ?_)
          · have hF := zi_t hF hc
            refine lv_aload_n hx hb dX7_told_69 rfl (lv_at hl 0 rfl) ?_
            refine z_getr hX hH 0 0 1 rfl rfl flX7_told_14 dX7_told_70 ?_
            refine z_getr hX hH 1 4 17 rfl rfl flX7_told_74 dX7_told_73 ?_
            refine z_geti hX hH 17 1 rfl rfl flX7_told_78 dX7_told_76 ?_
            exact z_iret hX hr hlocks hH hF rfl dX7_told_79
          · have hF := zi_f hF hc
            refine lv_aload_n hx hb dX7_told_56 rfl (lv_at hl 0 rfl) ?_
            refine z_getr hX hH 0 0 1 rfl rfl flX7_told_14 dX7_told_57 ?_
            refine z_getr hX hH 1 1 3 rfl rfl flX7_told_71 dX7_told_60 ?_
            refine lv_iload_n hx hb dX7_told_63 rfl (lv_at hl 1 rfl) ?_
            refine z_bipush (v := 8) hx hb dX7_told_64 (by decide +kernel) ?_
            refine z_isub hx hb dX7_told_66 ?_
            obtain ⟨h2, hF⟩ := zg_e hF
            refine z_iald hX hH 3 5 rfl h2 (by decide) dX7_told_67 ?_
            exact z_iret hX hr hlocks hH hF rfl dX7_told_68
        · have hF := zi_f hF hc
          refine lv_aload_n hx hb dX7_told_33 rfl (lv_at hl 0 rfl) ?_
          refine z_getr hX hH 0 0 1 rfl rfl flX7_told_14 dX7_told_34 ?_
          refine z_getr hX hH 1 2 4 rfl rfl flX7_told_62 dX7_told_37 ?_
          refine z_getr hX hH 4 1 6 rfl rfl flX7_told_66 dX7_told_40 ?_
          refine lv_iload_n hx hb dX7_told_43 rfl (lv_at hl 1 rfl) ?_
          refine z_iconst hx hb dX7_told_44 ?_
          refine z_isub hx hb dX7_told_45 ?_
          refine z_iconst hx hb dX7_told_46 ?_
          refine z_iadd hx hb dX7_told_47 ?_
          obtain ⟨h3, hF⟩ := zg_e hF
          refine z_iald hX hH 6 5 rfl h3 (by decide) dX7_told_48 ?_
          exact z_iret hX hr hlocks hH hF rfl dX7_told_49
      · have hF := zi_f hF hc
        refine lv_aload_n hx hb dX7_told_17 rfl (lv_at hl 0 rfl) ?_
        refine z_getr hX hH 0 0 1 rfl rfl flX7_told_14 dX7_told_18 ?_
        refine z_getr hX hH 1 0 2 rfl rfl flX7_told_49 dX7_told_21 ?_
        refine lv_iload_n hx hb dX7_told_24 rfl (lv_at hl 1 rfl) ?_
        obtain ⟨h4, hF⟩ := zg_e hF
        refine z_iald hX hH 2 4 rfl h4 (by decide) dX7_told_25 ?_
        exact z_iret hX hr hlocks hH hF rfl dX7_told_26
    · have hF := zi_f hF hc
      refine z_iconst hx hb dX7_told_10 ?_
      exact z_iret hX hr hlocks hH hF rfl dX7_told_11
set_option maxHeartbeats 4000000 in
set_option maxRecDepth 100000 in
theorem ctX7_keyOf (l : Launch) (D : va_G) (cs : Nat → ClassId) (α : Nat → Nat) (N : Nat) (M : zM) (a1 : Int) (a2 : Int) (r : Int) (hF : fX7_keyOf N a1 a2 = some r) : Met l yX7_keyOf wsX7_keyOf ({ frames := 0, cells := 0, slots := 0, locals := 0 }) (zPre D cs LNo α M [.int (nZ a1), .int (nZ a2)]) (zQi D cs LNo α r M) 0 0 (zA LNo.length α) := by
  refine z_met (cc := cX7_keyOf) (maxL := 2) (ret := (some .int)) (by decide +kernel) rfl RX7 rfl (Nat.le_of_ble_eq_true rfl) ?_
  intro p e s m below meth c ls hX hr hlocks hH hl
  have hx := hX.1.1
  have hb := hX.1.2.1
  have hts := hX.1.2.2.2.2
  have hl : lv_has ls 2 [(0, .int (nZ a1)), (1, .int (nZ a2))] := hl
  unfold fX7_keyOf at hF
  refine lv_iload_n hx hb dX7_keyOf_0 rfl (lv_at hl 0 rfl) ?_
  obtain ⟨h1, hF⟩ := zg_e hF
  refine z_if_lt (tgt := 19) hx hb h1 dX7_keyOf_1 (by decide) (fun hc => ?_) (fun hc => ?_)
  · have hF := zi_t hF hc
    refine z_iconst hx hb dX7_keyOf_19 ?_
    exact z_iretP hX hr hlocks hH hF rfl dX7_keyOf_20
  · have hF := zi_f hF hc
    refine lv_iload_n hx hb dX7_keyOf_4 rfl (lv_at hl 0 rfl) ?_
    refine z_iconst hx hb dX7_keyOf_5 ?_
    refine z_icmp_ge (tgt := 19) hx hb h1 (by decide) dX7_keyOf_6 (by decide) (fun hc => ?_) (fun hc => ?_)
    · have hF := zi_t hF hc
      refine z_iconst hx hb dX7_keyOf_19 ?_
      exact z_iretP hX hr hlocks hH hF rfl dX7_keyOf_20
    · have hF := zi_f hF hc
      refine lv_iload_n hx hb dX7_keyOf_9 rfl (lv_at hl 1 rfl) ?_
      obtain ⟨h2, hF⟩ := zg_e hF
      refine z_if_lt (tgt := 19) hx hb h2 dX7_keyOf_10 (by decide) (fun hc => ?_) (fun hc => ?_)
      · have hF := zi_t hF hc
        refine z_iconst hx hb dX7_keyOf_19 ?_
        exact z_iretP hX hr hlocks hH hF rfl dX7_keyOf_20
      · have hF := zi_f hF hc
        refine lv_iload_n hx hb dX7_keyOf_13 rfl (lv_at hl 1 rfl) ?_
        refine z_bipush (v := 100) hx hb dX7_keyOf_14 (by decide +kernel) ?_
        refine z_icmp_lt (tgt := 21) hx hb h2 (by decide) dX7_keyOf_16 (by decide) (fun hc => ?_) (fun hc => ?_)
        · have hF := zi_t hF hc
          refine lv_iload_n hx hb dX7_keyOf_21 rfl (lv_at hl 0 rfl) ?_
          refine z_bipush (v := 100) hx hb dX7_keyOf_22 (by decide +kernel) ?_
          refine z_imul hx hb dX7_keyOf_24 ?_
          refine lv_iload_n hx hb dX7_keyOf_25 rfl (lv_at hl 1 rfl) ?_
          refine z_iadd hx hb dX7_keyOf_26 ?_
          exact z_iretP hX hr hlocks hH hF rfl dX7_keyOf_27
        · have hF := zi_f hF hc
          refine z_iconst hx hb dX7_keyOf_19 ?_
          exact z_iretP hX hr hlocks hH hF rfl dX7_keyOf_20
theorem flX7_put_14 : zF RX7 wsX7_put 14 7 0 := ⟨_, TX7, _, rfl, by decide +kernel, by decide +kernel, by decide, rfl⟩
theorem flX7_put_49 : zF RX7 wsX7_put 49 3 0 := ⟨_, TX3, _, rfl, by decide +kernel, by decide +kernel, by decide, rfl⟩
set_option maxHeartbeats 4000000 in
set_option maxRecDepth 100000 in
theorem ctX7_put (l : Launch) (κ : Bool) (D : va_G) (cs : Nat → ClassId) (α : Nat → Nat) (N : Nat) (M : zM) (a1 : Int) (a2 : Int) (a3 : Int) (a4 : Int) (a5 : Int) (r : Int) (M' : zM) (hF : fX7_put N a1 a2 a3 a4 a5 M = some (r, M')) : Met l yX7_put wsX7_put ({ frames := 5, cells := 0, slots := 0, locals := 120 }) (zPre D cs (LX κ) α M [.ref (α 0), .int (nZ a1), .int (nZ a2), .int (nZ a3), .int (nZ a4), .int (nZ a5)]) (zQi D cs (LX κ) α r M') 0 0 (zA (LX κ).length α) := by
  refine z_met (cc := cX7_put) (maxL := 7) (ret := (some .int)) (by decide +kernel) rfl RX7 rfl (Nat.le_of_ble_eq_true rfl) ?_
  intro p e s m below meth c ls hX hr hlocks hH hl
  have hx := hX.1.1
  have hb := hX.1.2.1
  have hts := hX.1.2.2.2.2
  have hl : lv_has ls 7 [(0, .ref (α 0)), (1, .int (nZ a1)), (2, .int (nZ a2)), (3, .int (nZ a3)), (4, .int (nZ a4)), (5, .int (nZ a5))] := hl
  unfold fX7_put at hF
  refine lv_iload_n hx hb dX7_put_0 rfl (lv_at hl 1 rfl) ?_
  refine lv_iload_n hx hb dX7_put_1 rfl (lv_at hl 2 rfl) ?_
  obtain ⟨r1, c2, hF⟩ := zc_e hF
  refine z_callSi (As := [.int (nZ a1), .int (nZ a2)]) (is := []) (Ll := []) hX hH rfl (ctX7_keyOf l D cs (zsb [] α) N (zpk [] M) a1 a2 r1 c2) (va_cwS 2 hts gX7_put_X7_keyOf rfl rfl rfl (by decide +kernel) ⟨Nat.le_of_ble_eq_true rfl, Nat.le_of_ble_eq_true rfl⟩) rfl hl.1 (Nat.le_of_ble_eq_true rfl) rfl dX7_put_2 ⟨Nat.zero_le _, Nat.zero_le _⟩ (fun H locs hH => ?_)
  have hH : zH D cs (LX κ) α M (zA (LX κ).length α) s H locs := hH
  obtain ⟨v3, ev3, hF⟩ := zl_e hF
  refine z_istore ev3 (lv' := [(6, .int (nZ v3)), (0, .ref (α 0)), (1, .int (nZ a1)), (2, .int (nZ a2)), (3, .int (nZ a3)), (4, .int (nZ a4)), (5, .int (nZ a5))]) hx hb dX7_put_5 hl (by decide) rfl (fun ls hl => ?_)
  refine lv_iload hx hb dX7_put_7 (lv_at hl 0 rfl) ?_
  obtain ⟨h4, hF⟩ := zg_e hF
  refine z_if_ge (tgt := 14) hx hb h4 dX7_put_9 (by decide) (fun hc => ?_) (fun hc => ?_)
  · have hF := zi_t hF hc
    refine lv_iload hx hb dX7_put_14 (lv_at hl 5 rfl) ?_
    refine z_iconst hx hb dX7_put_16 ?_
    obtain ⟨h5, hF⟩ := zg_e hF
    refine z_icmp_lt (tgt := 39) hx hb h5 (by decide) dX7_put_17 (by decide) (fun hc => ?_) (fun hc => ?_)
    · have hF := zi_t hF hc
      refine z_bipush (v := -2) hx hb dX7_put_39 (by decide +kernel) ?_
      exact z_iret hX hr hlocks hH hF rfl dX7_put_41
    · have hF := zi_f hF hc
      refine lv_iload hx hb dX7_put_20 (lv_at hl 5 rfl) ?_
      refine z_bipush (v := 9) hx hb dX7_put_22 (by decide +kernel) ?_
      refine z_icmp_gt (tgt := 39) hx hb h5 (by decide) dX7_put_24 (by decide) (fun hc => ?_) (fun hc => ?_)
      · have hF := zi_t hF hc
        refine z_bipush (v := -2) hx hb dX7_put_39 (by decide +kernel) ?_
        exact z_iret hX hr hlocks hH hF rfl dX7_put_41
      · have hF := zi_f hF hc
        refine lv_iload hx hb dX7_put_27 (lv_at hl 6 rfl) ?_
        obtain ⟨h6, hF⟩ := zg_e hF
        refine z_if_lt (tgt := 39) hx hb h6 dX7_put_29 (by decide) (fun hc => ?_) (fun hc => ?_)
        · have hF := zi_t hF hc
          refine z_bipush (v := -2) hx hb dX7_put_39 (by decide +kernel) ?_
          exact z_iret hX hr hlocks hH hF rfl dX7_put_41
        · have hF := zi_f hF hc
          refine lv_iload hx hb dX7_put_32 (lv_at hl 6 rfl) ?_
          refine z_bipush (v := 99) hx hb dX7_put_34 (by decide +kernel) ?_
          refine z_icmp_le (tgt := 42) hx hb h6 (by decide) dX7_put_36 (by decide) (fun hc => ?_) (fun hc => ?_)
          · have hF := zi_t hF hc
            refine lv_iload hx hb dX7_put_42 (lv_at hl 5 rfl) ?_
            refine lv_aload_n hx hb dX7_put_44 rfl (lv_at hl 1 rfl) ?_
            refine z_getr hX hH 0 0 1 rfl rfl flX7_put_14 dX7_put_45 ?_
            refine z_getr hX hH 1 0 2 rfl rfl flX7_put_49 dX7_put_48 ?_
            refine z_iconst hx hb dX7_put_51 ?_
            refine z_iald hX hH 2 4 rfl (by decide) (by decide) dX7_put_52 ?_
            obtain ⟨h7, hF⟩ := zg_e hF
            refine z_icmp_le (tgt := 59) hx hb h5 h7 dX7_put_53 (by decide) (fun hc => ?_) (fun hc => ?_)
            · have hF := zi_t hF hc
              refine lv_aload_n hx hb dX7_put_59 rfl (lv_at hl 1 rfl) ?_
              refine z_getr hX hH 0 0 1 rfl rfl flX7_put_14 dX7_put_60 ?_
              refine lv_iload hx hb dX7_put_63 (lv_at hl 0 rfl) ?_
              refine lv_iload_n hx hb dX7_put_65 rfl (lv_at hl 4 rfl) ?_
              refine lv_iload hx hb dX7_put_66 (lv_at hl 5 rfl) ?_
              refine lv_iload hx hb dX7_put_68 (lv_at hl 6 rfl) ?_
              obtain ⟨r10, M9, c8, hF⟩ := zc2_e hF
              obtain ⟨M11, eM11, hF⟩ := zl_e hF
              refine z_callVi (As := [.int (nZ v3), .int (nZ a3), .int (nZ a4), .int (nZ a5)]) hX hH 1 3 (em_LX_is_1n21 κ) (ctX3_store l D cs (zsb is_1n21 α) N (zpk is_1n21 M) v3 a3 a4 a5 r10 M9 c8) (cwV 4 hts gX7_put_X3_store rfl rfl rfl (by decide +kernel) ⟨Nat.le_of_ble_eq_true rfl, Nat.le_of_ble_eq_true rfl⟩) rfl rfl rfl hl.1 (Nat.le_of_ble_eq_true rfl) rfl dX7_put_70 ⟨Nat.zero_le _, Nat.zero_le _⟩ (fun H locs hH => ?_)
              rw [← eM11] at hH
              exact z_iret hX hr hlocks hH hF rfl dX7_put_73
            · have hF := zi_f hF hc
              refine z_bipush (v := -4) hx hb dX7_put_56 (by decide +kernel) ?_
              exact z_iret hX hr hlocks hH hF rfl dX7_put_58
          · have hF := zi_f hF hc
            refine z_bipush (v := -2) hx hb dX7_put_39 (by decide +kernel) ?_
            exact z_iret hX hr hlocks hH hF rfl dX7_put_41
  · have hF := zi_f hF hc
    refine z_iconst hx hb dX7_put_12 ?_
    exact z_iret hX hr hlocks hH hF rfl dX7_put_13
theorem flX7_get_14 : zF RX7 wsX7_get 14 7 0 := ⟨_, TX7, _, rfl, by decide +kernel, by decide +kernel, by decide, rfl⟩
theorem flX7_get_97 : zF RX7 wsX7_get 97 3 3 := ⟨_, TX3, _, rfl, by decide +kernel, by decide +kernel, by decide, rfl⟩
set_option maxHeartbeats 4000000 in
set_option maxRecDepth 100000 in
theorem ctX7_get (l : Launch) (κ : Bool) (D : va_G) (cs : Nat → ClassId) (α : Nat → Nat) (N : Nat) (M : zM) (a1 : Int) (a2 : Int) (r : Int) (M' : zM) (hF : fX7_get N a1 a2 M = some (r, M')) : Met l yX7_get wsX7_get ({ frames := 5, cells := 0, slots := 0, locals := 112 }) (zPre D cs (LX κ) α M [.ref (α 0), .int (nZ a1), .int (nZ a2)]) (zQl D cs (LX κ) α r M') 0 0 (zA (LX κ).length α) := by
  refine z_met (cc := cX7_get) (maxL := 4) (ret := (some .long)) (by decide +kernel) rfl RX7 rfl (Nat.le_of_ble_eq_true rfl) ?_
  intro p e s m below meth c ls hX hr hlocks hH hl
  have hx := hX.1.1
  have hb := hX.1.2.1
  have hts := hX.1.2.2.2.2
  have hl : lv_has ls 4 [(0, .ref (α 0)), (1, .int (nZ a1)), (2, .int (nZ a2))] := hl
  unfold fX7_get at hF
  refine lv_iload_n hx hb dX7_get_0 rfl (lv_at hl 1 rfl) ?_
  refine lv_iload_n hx hb dX7_get_1 rfl (lv_at hl 2 rfl) ?_
  obtain ⟨r1, c2, hF⟩ := zc_e hF
  refine z_callSi (As := [.int (nZ a1), .int (nZ a2)]) (is := []) (Ll := []) hX hH rfl (ctX7_keyOf l D cs (zsb [] α) N (zpk [] M) a1 a2 r1 c2) (va_cwS 2 hts gX7_get_X7_keyOf rfl rfl rfl (by decide +kernel) ⟨Nat.le_of_ble_eq_true rfl, Nat.le_of_ble_eq_true rfl⟩) rfl hl.1 (Nat.le_of_ble_eq_true rfl) rfl dX7_get_2 ⟨Nat.zero_le _, Nat.zero_le _⟩ (fun H locs hH => ?_)
  have hH : zH D cs (LX κ) α M (zA (LX κ).length α) s H locs := hH
  obtain ⟨v3, ev3, hF⟩ := zl_e hF
  refine z_istore_n ev3 (lv' := [(3, .int (nZ v3)), (0, .ref (α 0)), (1, .int (nZ a1)), (2, .int (nZ a2))]) hx hb dX7_get_5 rfl hl (by decide) rfl (fun ls hl => ?_)
  refine lv_iload_n hx hb dX7_get_6 rfl (lv_at hl 0 rfl) ?_
  obtain ⟨h4, hF⟩ := zg_e hF
  refine z_if_ge (tgt := 14) hx hb h4 dX7_get_7 (by decide) (fun hc => ?_) (fun hc => ?_)
  · have hF := zi_t hF hc
    refine lv_aload_n hx hb dX7_get_14 rfl (lv_at hl 1 rfl) ?_
    refine z_getr hX hH 0 0 1 rfl rfl flX7_get_14 dX7_get_15 ?_
    refine lv_iload_n hx hb dX7_get_18 rfl (lv_at hl 0 rfl) ?_
    obtain ⟨r7, M6, c5, hF⟩ := zc2_e hF
    obtain ⟨M8, eM8, hF⟩ := zl_e hF
    refine z_callVi (As := [.int (nZ v3)]) hX hH 1 3 (em_LX_is_1n21 κ) (ctX3_fetch l D cs (zsb is_1n21 α) N (zpk is_1n21 M) v3 r7 M6 c5) (cwV 1 hts gX7_get_X3_fetch rfl rfl rfl (by decide +kernel) ⟨Nat.le_of_ble_eq_true rfl, Nat.le_of_ble_eq_true rfl⟩) rfl rfl rfl hl.1 (Nat.le_of_ble_eq_true rfl) rfl dX7_get_19 ⟨Nat.zero_le _, Nat.zero_le _⟩ (fun H locs hH => ?_)
    rw [← eM8] at hH
    obtain ⟨h9, hF⟩ := zg_e hF
    refine z_if_eq (tgt := 41) hx hb h9 dX7_get_22 (by decide) (fun hc => ?_) (fun hc => ?_)
    · have hF := zi_t hF hc
      refine z_ldc2 (v := (-9223372036854775808:Int)) (n := -9223372036854775808) hx hb hX.1.2.2.2.1 (hts (.constantLong RX7 91 (-9223372036854775808)) (by decide +kernel)) (by decide +kernel) dX7_get_41 ?_
      exact z_lret hX hr hlocks hH hF dX7_get_44
    · have hF := zi_f hF hc
      refine lv_aload_n hx hb dX7_get_25 rfl (lv_at hl 1 rfl) ?_
      refine z_getr hX hH 0 0 1 rfl rfl flX7_get_14 dX7_get_26 ?_
      refine z_getr hX hH 1 3 9 rfl rfl flX7_get_97 dX7_get_29 ?_
      refine z_bipush (v := 6) hx hb dX7_get_32 (by decide +kernel) ?_
      refine z_aald hX hH 9 4 16 rfl rfl rfl (by decide) (by decide) rfl dX7_get_34 ?_
      refine lv_iload_n hx hb dX7_get_35 rfl (lv_at hl 0 rfl) ?_
      obtain ⟨h10, hF⟩ := zg_e hF
      refine z_iald hX hH 16 400 rfl h10 (by decide) dX7_get_36 ?_
      obtain ⟨h11, hF⟩ := zg_e hF
      refine z_i2l hx hb h11 dX7_get_37 ?_
      refine lv_goto (tgt := 44) hx hb dX7_get_38 (by decide) ?_
      exact z_lret hX hr hlocks hH hF dX7_get_44
  · have hF := zi_f hF hc
    refine z_ldc2 (v := (-9223372036854775808:Int)) (n := -9223372036854775808) hx hb hX.1.2.2.2.1 (hts (.constantLong RX7 91 (-9223372036854775808)) (by decide +kernel)) (by decide +kernel) dX7_get_10 ?_
    exact z_lret hX hr hlocks hH hF dX7_get_13
theorem flX7_drop_14 : zF RX7 wsX7_drop 14 7 0 := ⟨_, TX7, _, rfl, by decide +kernel, by decide +kernel, by decide, rfl⟩
theorem flX7_drop_97 : zF RX7 wsX7_drop 97 3 3 := ⟨_, TX3, _, rfl, by decide +kernel, by decide +kernel, by decide, rfl⟩
set_option maxHeartbeats 4000000 in
set_option maxRecDepth 100000 in
theorem ctX7_drop (l : Launch) (κ : Bool) (D : va_G) (cs : Nat → ClassId) (α : Nat → Nat) (N : Nat) (M : zM) (a1 : Int) (a2 : Int) (r : Int) (M' : zM) (hF : fX7_drop N a1 a2 M = some (r, M')) : Met l yX7_drop wsX7_drop ({ frames := 2, cells := 0, slots := 0, locals := 48 }) (zPre D cs (LX κ) α M [.ref (α 0), .int (nZ a1), .int (nZ a2)]) (zQi D cs (LX κ) α r M') 0 0 (zA (LX κ).length α) := by
  refine z_met (cc := cX7_drop) (maxL := 5) (ret := (some .int)) (by decide +kernel) rfl RX7 rfl (Nat.le_of_ble_eq_true rfl) ?_
  intro p e s m below meth c ls hX hr hlocks hH hl
  have hx := hX.1.1
  have hb := hX.1.2.1
  have hts := hX.1.2.2.2.2
  have hl : lv_has ls 5 [(0, .ref (α 0)), (1, .int (nZ a1)), (2, .int (nZ a2))] := hl
  unfold fX7_drop at hF
  refine lv_iload_n hx hb dX7_drop_0 rfl (lv_at hl 1 rfl) ?_
  refine lv_iload_n hx hb dX7_drop_1 rfl (lv_at hl 2 rfl) ?_
  obtain ⟨r1, c2, hF⟩ := zc_e hF
  refine z_callSi (As := [.int (nZ a1), .int (nZ a2)]) (is := []) (Ll := []) hX hH rfl (ctX7_keyOf l D cs (zsb [] α) N (zpk [] M) a1 a2 r1 c2) (va_cwS 2 hts gX7_drop_X7_keyOf rfl rfl rfl (by decide +kernel) ⟨Nat.le_of_ble_eq_true rfl, Nat.le_of_ble_eq_true rfl⟩) rfl hl.1 (Nat.le_of_ble_eq_true rfl) rfl dX7_drop_2 ⟨Nat.zero_le _, Nat.zero_le _⟩ (fun H locs hH => ?_)
  have hH : zH D cs (LX κ) α M (zA (LX κ).length α) s H locs := hH
  obtain ⟨v3, ev3, hF⟩ := zl_e hF
  refine z_istore_n ev3 (lv' := [(3, .int (nZ v3)), (0, .ref (α 0)), (1, .int (nZ a1)), (2, .int (nZ a2))]) hx hb dX7_drop_5 rfl hl (by decide) rfl (fun ls hl => ?_)
  refine lv_iload_n hx hb dX7_drop_6 rfl (lv_at hl 0 rfl) ?_
  obtain ⟨h4, hF⟩ := zg_e hF
  refine z_if_ge (tgt := 12) hx hb h4 dX7_drop_7 (by decide) (fun hc => ?_) (fun hc => ?_)
  · have hF := zi_t hF hc
    refine lv_aload_n hx hb dX7_drop_12 rfl (lv_at hl 1 rfl) ?_
    refine z_getr hX hH 0 0 1 rfl rfl flX7_drop_14 dX7_drop_13 ?_
    refine z_getr hX hH 1 3 9 rfl rfl flX7_drop_97 dX7_drop_16 ?_
    refine z_iconst hx hb dX7_drop_19 ?_
    refine z_aald hX hH 9 4 10 rfl rfl rfl (by decide) (by decide) rfl dX7_drop_20 ?_
    refine lv_iload_n hx hb dX7_drop_21 rfl (lv_at hl 0 rfl) ?_
    obtain ⟨h5, hF⟩ := zg_e hF
    refine z_iald hX hH 10 400 rfl h5 (by decide) dX7_drop_22 ?_
    obtain ⟨v6, ev6, hF⟩ := zl_e hF
    refine z_istore ev6 (lv' := [(4, .int (nZ v6)), (3, .int (nZ v3)), (0, .ref (α 0)), (1, .int (nZ a1)), (2, .int (nZ a2))]) hx hb dX7_drop_23 hl (by decide) rfl (fun ls hl => ?_)
    refine lv_aload_n hx hb dX7_drop_25 rfl (lv_at hl 2 rfl) ?_
    refine z_getr hX hH 0 0 1 rfl rfl flX7_drop_14 dX7_drop_26 ?_
    refine lv_iload_n hx hb dX7_drop_29 rfl (lv_at hl 1 rfl) ?_
    refine z_iconst hx hb dX7_drop_30 ?_
    obtain ⟨M8, c7, hF⟩ := zc_e hF
    obtain ⟨M9, eM9, hF⟩ := zl_e hF
    refine z_callVv (As := [.int (nZ v3), .int (nZ (0:Int))]) hX hH 1 3 (em_LX_is_1n21 κ) (ctX3_move l D cs (zsb is_1n21 α) N (zpk is_1n21 M) v3 (0:Int) M8 c7) (cwV 2 hts gX7_drop_X3_move rfl rfl rfl (by decide +kernel) ⟨Nat.le_of_ble_eq_true rfl, Nat.le_of_ble_eq_true rfl⟩) rfl rfl rfl hl.1 (Nat.le_of_ble_eq_true rfl) rfl dX7_drop_31 ⟨Nat.zero_le _, Nat.zero_le _⟩ (fun H locs hH => ?_)
    rw [← eM9] at hH
    refine lv_iload hx hb dX7_drop_34 (lv_at hl 0 rfl) ?_
    exact z_iret hX hr hlocks hH hF rfl dX7_drop_36
  · have hF := zi_f hF hc
    refine z_iconst hx hb dX7_drop_10 ?_
    exact z_iret hX hr hlocks hH hF rfl dX7_drop_11
theorem flX7_pin_14 : zF RX7 wsX7_pin 14 7 0 := ⟨_, TX7, _, rfl, by decide +kernel, by decide +kernel, by decide, rfl⟩
theorem flX7_pin_97 : zF RX7 wsX7_pin 97 3 3 := ⟨_, TX3, _, rfl, by decide +kernel, by decide +kernel, by decide, rfl⟩
set_option maxHeartbeats 4000000 in
set_option maxRecDepth 100000 in
theorem ctX7_pin (l : Launch) (κ : Bool) (D : va_G) (cs : Nat → ClassId) (α : Nat → Nat) (N : Nat) (M : zM) (a1 : Int) (a2 : Int) (a3 : Int) (r : Int) (M' : zM) (hF : fX7_pin N a1 a2 a3 M = some (r, M')) : Met l yX7_pin wsX7_pin ({ frames := 1, cells := 0, slots := 0, locals := 22 }) (zPre D cs (LX κ) α M [.ref (α 0), .int (nZ a1), .int (nZ a2), .int (nZ a3)]) (zQi D cs (LX κ) α r M') 0 0 (zA (LX κ).length α) := by
  refine z_met (cc := cX7_pin) (maxL := 6) (ret := (some .int)) (by decide +kernel) rfl RX7 rfl (Nat.le_of_ble_eq_true rfl) ?_
  intro p e s m below meth c ls hX hr hlocks hH hl
  have hx := hX.1.1
  have hb := hX.1.2.1
  have hts := hX.1.2.2.2.2
  have J63 : ∀ (x5 : Int) (y0 : Int) (y1 : Int) (M0 : zM), sX7_pin_63 N x5 y0 y1 M0 = some (r, M') → zGo p l e (headSpec wsX7_pin ({ frames := 1, cells := 0, slots := 0, locals := 22 })).room s m ([.ref (α 0), .int (nZ a1), .int (nZ a2), .int (nZ a3)] : List Value).toArray below meth c (MQ below (zQi D cs (LX κ) α r M') ([.ref (α 0), .int (nZ a1), .int (nZ a2), .int (nZ a3)] : List Value).toArray s 0 0 (zA (LX κ).length α)) D cs (LX κ) α (zA (LX κ).length α) 6 63 [(5, .int (nZ x5))] [.int (nZ y0), .int (nZ y1), .ref (α 15)] M0 := by
    intro x5 y0 y1 M0 hF H locs ls hH hl
    unfold sX7_pin_63 at hF
    obtain ⟨h13, hF⟩ := zg_e hF
    obtain ⟨M14, eM14, hF⟩ := zl_e hF
    refine z_iast hX hH 15 400 eM14 rfl h13 (by decide) dX7_pin_63 (fun H locs hH => ?_)
    refine lv_iload hx hb dX7_pin_64 (lv_at hl 0 rfl) ?_
    exact z_iret hX hr hlocks hH hF rfl dX7_pin_66
  have hl : lv_has ls 6 [(0, .ref (α 0)), (1, .int (nZ a1)), (2, .int (nZ a2)), (3, .int (nZ a3))] := hl
  unfold fX7_pin at hF
  refine lv_iload_n hx hb dX7_pin_0 rfl (lv_at hl 1 rfl) ?_
  refine lv_iload_n hx hb dX7_pin_1 rfl (lv_at hl 2 rfl) ?_
  obtain ⟨r1, c2, hF⟩ := zc_e hF
  refine z_callSi (As := [.int (nZ a1), .int (nZ a2)]) (is := []) (Ll := []) hX hH rfl (ctX7_keyOf l D cs (zsb [] α) N (zpk [] M) a1 a2 r1 c2) (va_cwS 2 hts gX7_pin_X7_keyOf rfl rfl rfl (by decide +kernel) ⟨Nat.le_of_ble_eq_true rfl, Nat.le_of_ble_eq_true rfl⟩) rfl hl.1 (Nat.le_of_ble_eq_true rfl) rfl dX7_pin_2 ⟨Nat.zero_le _, Nat.zero_le _⟩ (fun H locs hH => ?_)
  have hH : zH D cs (LX κ) α M (zA (LX κ).length α) s H locs := hH
  obtain ⟨v3, ev3, hF⟩ := zl_e hF
  refine z_istore ev3 (lv' := [(4, .int (nZ v3)), (0, .ref (α 0)), (1, .int (nZ a1)), (2, .int (nZ a2)), (3, .int (nZ a3))]) hx hb dX7_pin_5 hl (by decide) rfl (fun ls hl => ?_)
  refine lv_iload hx hb dX7_pin_7 (lv_at hl 0 rfl) ?_
  obtain ⟨h4, hF⟩ := zg_e hF
  refine z_if_ge (tgt := 14) hx hb h4 dX7_pin_9 (by decide) (fun hc => ?_) (fun hc => ?_)
  · have hF := zi_t hF hc
    refine lv_aload_n hx hb dX7_pin_14 rfl (lv_at hl 1 rfl) ?_
    refine z_getr hX hH 0 0 1 rfl rfl flX7_pin_14 dX7_pin_15 ?_
    refine lv_iload hx hb dX7_pin_18 (lv_at hl 0 rfl) ?_
    obtain ⟨r7, M6, c5, hF⟩ := zc2_e hF
    obtain ⟨M8, eM8, hF⟩ := zl_e hF
    refine z_callVi (As := [.int (nZ v3)]) hX hH 1 3 (em_LX_is_1n21 κ) (ctX3_isThing l D cs (zsb is_1n21 α) N (zpk is_1n21 M) v3 r7 M6 c5) (cwV 1 hts gX7_pin_X3_isThing rfl rfl rfl (by decide +kernel) ⟨Nat.le_of_ble_eq_true rfl, Nat.le_of_ble_eq_true rfl⟩) rfl rfl rfl hl.1 (Nat.le_of_ble_eq_true rfl) rfl dX7_pin_20 ⟨Nat.zero_le _, Nat.zero_le _⟩ (fun H locs hH => ?_)
    rw [← eM8] at hH
    obtain ⟨h9, hF⟩ := zg_e hF
    refine z_if_ne (tgt := 29) hx hb h9 dX7_pin_23 (by decide) (fun hc => ?_) (fun hc => ?_)
    · have hF := zi_f hF hc
      refine lv_aload_n hx hb dX7_pin_29 rfl (lv_at hl 1 rfl) ?_
      refine z_getr hX hH 0 0 1 rfl rfl flX7_pin_14 dX7_pin_30 ?_
      refine z_getr hX hH 1 3 9 rfl rfl flX7_pin_97 dX7_pin_33 ?_
      refine z_iconst hx hb dX7_pin_36 ?_
      refine z_aald hX hH 9 4 15 rfl rfl rfl (by decide) (by decide) rfl dX7_pin_37 ?_
      refine lv_iload hx hb dX7_pin_38 (lv_at hl 0 rfl) ?_
      obtain ⟨h10, hF⟩ := zg_e hF
      refine z_iald hX hH 15 400 rfl h10 (by decide) dX7_pin_40 ?_
      obtain ⟨v11, ev11, hF⟩ := zl_e hF
      refine z_istore ev11 (lv' := [(5, .int (nZ v11)), (4, .int (nZ v3)), (0, .ref (α 0)), (1, .int (nZ a1)), (2, .int (nZ a2)), (3, .int (nZ a3))]) hx hb dX7_pin_41 hl (by decide) rfl (fun ls hl => ?_)
      refine lv_aload_n hx hb dX7_pin_43 rfl (lv_at hl 2 rfl) ?_
      refine z_getr hX hH 0 0 1 rfl rfl flX7_pin_14 dX7_pin_44 ?_
      refine z_getr hX hH 1 3 9 rfl rfl flX7_pin_97 dX7_pin_47 ?_
      refine z_iconst hx hb dX7_pin_50 ?_
      refine z_aald hX hH 9 4 15 rfl rfl rfl (by decide) (by decide) rfl dX7_pin_51 ?_
      refine lv_iload hx hb dX7_pin_52 (lv_at hl 1 rfl) ?_
      refine lv_iload_n hx hb dX7_pin_54 rfl (lv_at hl 5 rfl) ?_
      obtain ⟨h12, hF⟩ := zg_e hF
      refine z_if_eq (tgt := 62) hx hb h12 dX7_pin_55 (by decide) (fun hc => ?_) (fun hc => ?_)
      · have hF := zi_t hF hc
        refine z_iconst hx hb dX7_pin_62 ?_
        exact J63 v11 (0:Int) v3 M8 hF _ _ _ hH (lv_sub hl [0] rfl)
      · have hF := zi_f hF hc
        refine z_iconst hx hb dX7_pin_58 ?_
        refine lv_goto (tgt := 63) hx hb dX7_pin_59 (by decide) ?_
        exact J63 v11 (1:Int) v3 M8 hF _ _ _ hH (lv_sub hl [0] rfl)
    · have hF := zi_t hF hc
      refine z_bipush (v := -3) hx hb dX7_pin_26 (by decide +kernel) ?_
      exact z_iret hX hr hlocks hH hF rfl dX7_pin_28
  · have hF := zi_f hF hc
    refine z_iconst hx hb dX7_pin_12 ?_
    exact z_iret hX hr hlocks hH hF rfl dX7_pin_13
theorem flX7_of_14 : zF RX7 wsX7_of 14 7 0 := ⟨_, TX7, _, rfl, by decide +kernel, by decide +kernel, by decide, rfl⟩
theorem flX7_of_97 : zF RX7 wsX7_of 97 3 3 := ⟨_, TX3, _, rfl, by decide +kernel, by decide +kernel, by decide, rfl⟩
theorem ra_LX_10 : ∀ i : Nat, i < 7 → ([10, 11, 12, 13, 14, 15, 16] : List Nat)[i]? = some (10 + 1 * i) := fun i h => match i, h with | 0, _ => rfl | 1, _ => rfl | 2, _ => rfl | 3, _ => rfl | 4, _ => rfl | 5, _ => rfl | 6, _ => rfl | n + 7, h => absurd h (by omega)
theorem fm_LX_10_0 (κ : Bool) : ∀ i : Nat, i < 7 → (LX κ)[10 + 1 * i]? = some (1, 400, []) := fun i h => match i, h with | 0, _ => rfl | 1, _ => rfl | 2, _ => rfl | 3, _ => rfl | 4, _ => rfl | 5, _ => rfl | 6, _ => rfl | n + 7, h => absurd h (by omega)
set_option maxHeartbeats 4000000 in
set_option maxRecDepth 100000 in
theorem ctX7_of (l : Launch) (κ : Bool) (D : va_G) (cs : Nat → ClassId) (α : Nat → Nat) (N : Nat) (M : zM) (a1 : Int) (a2 : Int) (a3 : Int) (r : Int) (M' : zM) (hF : fX7_of N a1 a2 a3 M = some (r, M')) : Met l yX7_of wsX7_of ({ frames := 3, cells := 0, slots := 0, locals := 67 }) (zPre D cs (LX κ) α M [.ref (α 0), .int (nZ a1), .int (nZ a2), .int (nZ a3)]) (zQi D cs (LX κ) α r M') 0 0 (zA (LX κ).length α) := by
  refine z_met (cc := cX7_of) (maxL := 7) (ret := (some .int)) (by decide +kernel) rfl RX7 rfl (Nat.le_of_ble_eq_true rfl) ?_
  intro p e s m below meth c ls hX hr hlocks hH hl
  have hx := hX.1.1
  have hb := hX.1.2.1
  have hts := hX.1.2.2.2.2
  have J88 : ∀ (x3 : Int) (x4 : Int) (y0 : Int) (M0 : zM), sX7_of_88 N x3 x4 y0 M0 = some (r, M') → zGo p l e (headSpec wsX7_of ({ frames := 3, cells := 0, slots := 0, locals := 67 })).room s m ([.ref (α 0), .int (nZ a1), .int (nZ a2), .int (nZ a3)] : List Value).toArray below meth c (MQ below (zQi D cs (LX κ) α r M') ([.ref (α 0), .int (nZ a1), .int (nZ a2), .int (nZ a3)] : List Value).toArray s 0 0 (zA (LX κ).length α)) D cs (LX κ) α (zA (LX κ).length α) 7 88 [(0, .ref (α 0)), (3, .int (nZ x3)), (4, .int (nZ x4))] [.int (nZ y0)] M0 := by
    intro x3 x4 y0 M0 hF H locs ls hH hl
    unfold sX7_of_88 at hF
    obtain ⟨v12, ev12, hF⟩ := zl_e hF
    refine z_istore ev12 (lv' := [(6, .int (nZ v12)), (0, .ref (α 0)), (3, .int (nZ x3)), (4, .int (nZ x4))]) hx hb dX7_of_88 hl (by decide) rfl (fun ls hl => ?_)
    refine lv_iload hx hb dX7_of_90 (lv_at hl 0 rfl) ?_
    obtain ⟨h13, hF⟩ := zg_e hF
    refine z_if_eq (tgt := 110) hx hb h13 dX7_of_92 (by decide) (fun hc => ?_) (fun hc => ?_)
    · have hF := zi_t hF hc
      refine z_bipush (v := -5) hx hb dX7_of_110 (by decide +kernel) ?_
      exact z_iret hX hr hlocks hH hF rfl dX7_of_112
    · have hF := zi_f hF hc
      refine lv_aload_n hx hb dX7_of_95 rfl (lv_at hl 1 rfl) ?_
      refine z_getr hX hH 0 0 1 rfl rfl flX7_of_14 dX7_of_96 ?_
      refine z_getr hX hH 1 3 9 rfl rfl flX7_of_97 dX7_of_99 ?_
      refine lv_iload_n hx hb dX7_of_102 rfl (lv_at hl 2 rfl) ?_
      obtain ⟨h14, hF⟩ := zg_e hF
      have h15 : x3.toNat < 7 := by have := h14.1; have := h14.2; omega
      refine z_aald (ts := [10, 11, 12, 13, 14, 15, 16]) hX hH 9 4 (10 + 1 * x3.toNat) rfl rfl rfl h14 (by decide) (ra_LX_10 x3.toNat h15) dX7_of_103 ?_
      refine lv_iload hx hb dX7_of_104 (lv_at hl 3 rfl) ?_
      obtain ⟨h16, hF⟩ := zg_e hF
      refine z_iald hX hH (10 + 1 * x3.toNat) 400 (fm_LX_10_0 κ x3.toNat h15) h16 (by decide) dX7_of_106 ?_
      refine lv_goto (tgt := 112) hx hb dX7_of_107 (by decide) ?_
      exact z_iret hX hr hlocks hH hF rfl dX7_of_112
  have hl : lv_has ls 7 [(0, .ref (α 0)), (1, .int (nZ a1)), (2, .int (nZ a2)), (3, .int (nZ a3))] := hl
  unfold fX7_of at hF
  refine lv_iload_n hx hb dX7_of_0 rfl (lv_at hl 1 rfl) ?_
  refine lv_iload_n hx hb dX7_of_1 rfl (lv_at hl 2 rfl) ?_
  obtain ⟨r1, c2, hF⟩ := zc_e hF
  refine z_callSi (As := [.int (nZ a1), .int (nZ a2)]) (is := []) (Ll := []) hX hH rfl (ctX7_keyOf l D cs (zsb [] α) N (zpk [] M) a1 a2 r1 c2) (va_cwS 2 hts gX7_of_X7_keyOf rfl rfl rfl (by decide +kernel) ⟨Nat.le_of_ble_eq_true rfl, Nat.le_of_ble_eq_true rfl⟩) rfl hl.1 (Nat.le_of_ble_eq_true rfl) rfl dX7_of_2 ⟨Nat.zero_le _, Nat.zero_le _⟩ (fun H locs hH => ?_)
  have hH : zH D cs (LX κ) α M (zA (LX κ).length α) s H locs := hH
  obtain ⟨v3, ev3, hF⟩ := zl_e hF
  refine z_istore ev3 (lv' := [(4, .int (nZ v3)), (0, .ref (α 0)), (1, .int (nZ a1)), (2, .int (nZ a2)), (3, .int (nZ a3))]) hx hb dX7_of_5 hl (by decide) rfl (fun ls hl => ?_)
  refine lv_iload hx hb dX7_of_7 (lv_at hl 0 rfl) ?_
  obtain ⟨h4, hF⟩ := zg_e hF
  refine z_if_lt (tgt := 22) hx hb h4 dX7_of_9 (by decide) (fun hc => ?_) (fun hc => ?_)
  · have hF := zi_t hF hc
    refine z_iconst hx hb dX7_of_22 ?_
    exact z_iret hX hr hlocks hH hF rfl dX7_of_23
  · have hF := zi_f hF hc
    refine lv_iload_n hx hb dX7_of_12 rfl (lv_at hl 4 rfl) ?_
    obtain ⟨h5, hF⟩ := zg_e hF
    refine z_if_lt (tgt := 22) hx hb h5 dX7_of_13 (by decide) (fun hc => ?_) (fun hc => ?_)
    · have hF := zi_t hF hc
      refine z_iconst hx hb dX7_of_22 ?_
      exact z_iret hX hr hlocks hH hF rfl dX7_of_23
    · have hF := zi_f hF hc
      refine lv_iload_n hx hb dX7_of_16 rfl (lv_at hl 4 rfl) ?_
      refine z_bipush (v := 6) hx hb dX7_of_17 (by decide +kernel) ?_
      refine z_icmp_le (tgt := 24) hx hb h5 (by decide) dX7_of_19 (by decide) (fun hc => ?_) (fun hc => ?_)
      · have hF := zi_t hF hc
        refine lv_aload_n hx hb dX7_of_24 rfl (lv_at hl 1 rfl) ?_
        refine z_getr hX hH 0 0 1 rfl rfl flX7_of_14 dX7_of_25 ?_
        refine z_getr hX hH 1 3 9 rfl rfl flX7_of_97 dX7_of_28 ?_
        refine z_iconst hx hb dX7_of_31 ?_
        refine z_aald hX hH 9 4 10 rfl rfl rfl (by decide) (by decide) rfl dX7_of_32 ?_
        refine lv_iload hx hb dX7_of_33 (lv_at hl 0 rfl) ?_
        obtain ⟨h6, hF⟩ := zg_e hF
        refine z_iald hX hH 10 400 rfl h6 (by decide) dX7_of_35 ?_
        obtain ⟨v7, ev7, hF⟩ := zl_e hF
        refine z_istore ev7 (lv' := [(5, .int (nZ v7)), (4, .int (nZ v3)), (0, .ref (α 0)), (1, .int (nZ a1)), (2, .int (nZ a2)), (3, .int (nZ a3))]) hx hb dX7_of_36 hl (by decide) rfl (fun ls hl => ?_)
        refine lv_iload_n hx hb dX7_of_38 rfl (lv_at hl 5 rfl) ?_
        refine z_if_ne (tgt := 45) hx hb h5 dX7_of_39 (by decide) (fun hc => ?_) (fun hc => ?_)
        · have hF := zi_f hF hc
          refine lv_iload_n hx hb dX7_of_45 rfl (lv_at hl 5 rfl) ?_
          refine z_bipush (v := 6) hx hb dX7_of_46 (by decide +kernel) ?_
          refine z_icmp_ne (tgt := 61) hx hb h5 (by decide) dX7_of_48 (by decide) (fun hc => ?_) (fun hc => ?_)
          · have hF := zi_f hF hc
            refine lv_iload_n hx hb dX7_of_61 rfl (lv_at hl 5 rfl) ?_
            refine z_iconst hx hb dX7_of_62 ?_
            refine z_icmp_ne (tgt := 79) hx hb h5 (by decide) dX7_of_63 (by decide) (fun hc => ?_) (fun hc => ?_)
            · have hF := zi_f hF hc
              refine lv_aload_n hx hb dX7_of_79 rfl (lv_at hl 2 rfl) ?_
              refine z_getr hX hH 0 0 1 rfl rfl flX7_of_14 dX7_of_80 ?_
              refine lv_iload hx hb dX7_of_83 (lv_at hl 1 rfl) ?_
              obtain ⟨r10, M9, c8, hF⟩ := zc2_e hF
              obtain ⟨M11, eM11, hF⟩ := zl_e hF
              refine z_callVi (As := [.int (nZ v3)]) hX hH 1 3 (em_LX_is_1n21 κ) (ctX3_isThing l D cs (zsb is_1n21 α) N (zpk is_1n21 M) v3 r10 M9 c8) (cwV 1 hts gX7_of_X3_isThing rfl rfl rfl (by decide +kernel) ⟨Nat.le_of_ble_eq_true rfl, Nat.le_of_ble_eq_true rfl⟩) rfl rfl rfl hl.1 (Nat.le_of_ble_eq_true rfl) rfl dX7_of_85 ⟨Nat.zero_le _, Nat.zero_le _⟩ (fun H locs hH => ?_)
              rw [← eM11] at hH
              exact J88 a3 v3 r10 M11 hF _ _ _ hH (lv_sub hl [2, 5, 1] rfl)
            · have hF := zi_t hF hc
              refine lv_iload hx hb dX7_of_66 (lv_at hl 0 rfl) ?_
              obtain ⟨h17, hF⟩ := zg_e hF
              refine z_if_eq (tgt := 75) hx hb h17 dX7_of_68 (by decide) (fun hc => ?_) (fun hc => ?_)
              · have hF := zi_t hF hc
                refine z_iconst hx hb dX7_of_75 ?_
                refine lv_goto (tgt := 88) hx hb dX7_of_76 (by decide) ?_
                exact J88 a3 v3 (0:Int) M hF _ _ _ hH (lv_sub hl [2, 5, 1] rfl)
              · have hF := zi_f hF hc
                refine z_iconst hx hb dX7_of_71 ?_
                refine lv_goto (tgt := 88) hx hb dX7_of_72 (by decide) ?_
                exact J88 a3 v3 (1:Int) M hF _ _ _ hH (lv_sub hl [2, 5, 1] rfl)
          · have hF := zi_t hF hc
            refine lv_aload_n hx hb dX7_of_51 rfl (lv_at hl 2 rfl) ?_
            refine z_getr hX hH 0 0 1 rfl rfl flX7_of_14 dX7_of_52 ?_
            refine lv_iload hx hb dX7_of_55 (lv_at hl 1 rfl) ?_
            obtain ⟨r20, M19, c18, hF⟩ := zc2_e hF
            obtain ⟨M21, eM21, hF⟩ := zl_e hF
            refine z_callVi (As := [.int (nZ v3)]) hX hH 1 3 (em_LX_is_1n21 κ) (ctX3_placeOf l D cs (zsb is_1n21 α) N (zpk is_1n21 M) v3 r20 M19 c18) (cwV 1 hts gX7_of_X3_placeOf rfl rfl rfl (by decide +kernel) ⟨Nat.le_of_ble_eq_true rfl, Nat.le_of_ble_eq_true rfl⟩) rfl rfl rfl hl.1 (Nat.le_of_ble_eq_true rfl) rfl dX7_of_57 ⟨Nat.zero_le _, Nat.zero_le _⟩ (fun H locs hH => ?_)
            rw [← eM21] at hH
            exact z_iret hX hr hlocks hH hF rfl dX7_of_60
        · have hF := zi_t hF hc
          refine lv_iload hx hb dX7_of_42 (lv_at hl 0 rfl) ?_
          exact z_iret hX hr hlocks hH hF rfl dX7_of_44
      · have hF := zi_f hF hc
        refine z_iconst hx hb dX7_of_22 ?_
        exact z_iret hX hr hlocks hH hF rfl dX7_of_23
theorem flX7_key_14 : zF RX7 wsX7_key 14 7 0 := ⟨_, TX7, _, rfl, by decide +kernel, by decide +kernel, by decide, rfl⟩
theorem flX7_key_62 : zF RX7 wsX7_key 62 3 2 := ⟨_, TX3, _, rfl, by decide +kernel, by decide +kernel, by decide, rfl⟩
theorem em_LX_is_4n5 (κ : Bool) : zemb (LX κ) LQ is_4n5 = true := by cases κ <;> decide +kernel
set_option maxHeartbeats 4000000 in
set_option maxRecDepth 100000 in
theorem ctX7_key (l : Launch) (κ : Bool) (D : va_G) (cs : Nat → ClassId) (α : Nat → Nat) (N : Nat) (M : zM) (a1 : Int) (a2 : Int) (r : Int) (M' : zM) (hF : fX7_key N a1 a2 M = some (r, M')) : Met l yX7_key wsX7_key ({ frames := 2, cells := 0, slots := 0, locals := 45 }) (zPre D cs (LX κ) α M [.ref (α 0), .int (nZ a1), .int (nZ a2)]) (zQi D cs (LX κ) α r M') 0 0 (zA (LX κ).length α) := by
  refine z_met (cc := cX7_key) (maxL := 3) (ret := (some .int)) (by decide +kernel) rfl RX7 rfl (Nat.le_of_ble_eq_true rfl) ?_
  intro p e s m below meth c ls hX hr hlocks hH hl
  have hx := hX.1.1
  have hb := hX.1.2.1
  have hts := hX.1.2.2.2.2
  have hl : lv_has ls 3 [(0, .ref (α 0)), (1, .int (nZ a1)), (2, .int (nZ a2))] := hl
  unfold fX7_key at hF
  refine lv_iload_n hx hb dX7_key_0 rfl (lv_at hl 1 rfl) ?_
  refine z_iconst hx hb dX7_key_1 ?_
  obtain ⟨h1, hF⟩ := zg_e hF
  refine z_icmp_lt (tgt := 14) hx hb h1 (by decide) dX7_key_2 (by decide) (fun hc => ?_) (fun hc => ?_)
  · have hF := zi_t hF hc
    refine z_iconst hx hb dX7_key_14 ?_
    exact z_iret hX hr hlocks hH hF rfl dX7_key_15
  · have hF := zi_f hF hc
    refine lv_iload_n hx hb dX7_key_5 rfl (lv_at hl 1 rfl) ?_
    refine z_iconst hx hb dX7_key_6 ?_
    refine z_icmp_ge (tgt := 14) hx hb h1 (by decide) dX7_key_7 (by decide) (fun hc => ?_) (fun hc => ?_)
    · have hF := zi_t hF hc
      refine z_iconst hx hb dX7_key_14 ?_
      exact z_iret hX hr hlocks hH hF rfl dX7_key_15
    · have hF := zi_f hF hc
      refine lv_iload_n hx hb dX7_key_10 rfl (lv_at hl 2 rfl) ?_
      obtain ⟨h2, hF⟩ := zg_e hF
      refine z_if_ge (tgt := 16) hx hb h2 dX7_key_11 (by decide) (fun hc => ?_) (fun hc => ?_)
      · have hF := zi_t hF hc
        refine lv_aload_n hx hb dX7_key_16 rfl (lv_at hl 0 rfl) ?_
        refine z_getr hX hH 0 0 1 rfl rfl flX7_key_14 dX7_key_17 ?_
        refine z_getr hX hH 1 2 4 rfl rfl flX7_key_62 dX7_key_20 ?_
        refine lv_iload_n hx hb dX7_key_23 rfl (lv_at hl 1 rfl) ?_
        refine lv_iload_n hx hb dX7_key_24 rfl (lv_at hl 2 rfl) ?_
        obtain ⟨r5, M4, c3, hF⟩ := zc2_e hF
        obtain ⟨M6, eM6, hF⟩ := zl_e hF
        refine z_callVi (As := [.int (nZ a1), .int (nZ a2)]) hX hH 4 2 (em_LX_is_4n5 κ) (ctX2_keyAt l D cs (zsb is_4n5 α) N (zpk is_4n5 M) a1 a2 r5 M4 c3) (cwV 2 hts gX7_key_X2_keyAt rfl rfl rfl (by decide +kernel) ⟨Nat.le_of_ble_eq_true rfl, Nat.le_of_ble_eq_true rfl⟩) rfl rfl rfl hl.1 (Nat.le_of_ble_eq_true rfl) rfl dX7_key_25 ⟨Nat.zero_le _, Nat.zero_le _⟩ (fun H locs hH => ?_)
        rw [← eM6] at hH
        exact z_iret hX hr hlocks hH hF rfl dX7_key_28
      · have hF := zi_f hF hc
        refine z_iconst hx hb dX7_key_14 ?_
        exact z_iret hX hr hlocks hH hF rfl dX7_key_15
theorem flX7_gone_14 : zF RX7 wsX7_gone 14 7 0 := ⟨_, TX7, _, rfl, by decide +kernel, by decide +kernel, by decide, rfl⟩
theorem flX7_gone_74 : zF RX7 wsX7_gone 74 3 4 := ⟨_, TX3, _, rfl, by decide +kernel, by decide +kernel, by decide, rfl⟩
theorem flX7_gone_78 : zF RX7 wsX7_gone 78 1 1 := ⟨_, TX1, _, rfl, by decide +kernel, by decide +kernel, by decide, rfl⟩
theorem em_LX_is_17n2 (κ : Bool) : zemb (LX κ) LLeav is_17n2 = true := by cases κ <;> decide +kernel
set_option maxHeartbeats 4000000 in
set_option maxRecDepth 100000 in
theorem ctX7_gone (l : Launch) (κ : Bool) (D : va_G) (cs : Nat → ClassId) (α : Nat → Nat) (N : Nat) (M : zM) (a1 : Int) (r : Int) (M' : zM) (hF : fX7_gone N a1 M = some (r, M')) : Met l yX7_gone wsX7_gone ({ frames := 2, cells := 0, slots := 0, locals := 43 }) (zPre D cs (LX κ) α M [.ref (α 0), .int (nZ a1)]) (zQi D cs (LX κ) α r M') 0 0 (zA (LX κ).length α) := by
  refine z_met (cc := cX7_gone) (maxL := 3) (ret := (some .int)) (by decide +kernel) rfl RX7 rfl (Nat.le_of_ble_eq_true rfl) ?_
  intro p e s m below meth c ls hX hr hlocks hH hl
  have hx := hX.1.1
  have hb := hX.1.2.1
  have hts := hX.1.2.2.2.2
  have hl : lv_has ls 3 [(0, .ref (α 0)), (1, .int (nZ a1))] := hl
  unfold fX7_gone at hF
  refine lv_iload_n hx hb dX7_gone_0 rfl (lv_at hl 1 rfl) ?_
  obtain ⟨h1, hF⟩ := zg_e hF
  refine z_if_ge (tgt := 6) hx hb h1 dX7_gone_1 (by decide) (fun hc => ?_) (fun hc => ?_)
  · have hF := zi_t hF hc
    refine lv_aload_n hx hb dX7_gone_6 rfl (lv_at hl 0 rfl) ?_
    refine z_getr hX hH 0 0 1 rfl rfl flX7_gone_14 dX7_gone_7 ?_
    refine z_getr hX hH 1 4 17 rfl rfl flX7_gone_74 dX7_gone_10 ?_
    refine z_geti hX hH 17 1 rfl rfl flX7_gone_78 dX7_gone_13 ?_
    obtain ⟨v2, ev2, hF⟩ := zl_e hF
    refine z_istore_n ev2 (lv' := [(2, .int (nZ v2)), (0, .ref (α 0)), (1, .int (nZ a1))]) hx hb dX7_gone_16 rfl hl (by decide) rfl (fun ls hl => ?_)
    refine lv_iload_n hx hb dX7_gone_17 rfl (lv_at hl 2 rfl) ?_
    refine z_bipush (v := 20) hx hb dX7_gone_18 (by decide +kernel) ?_
    refine lv_iload_n hx hb dX7_gone_20 rfl (lv_at hl 0 rfl) ?_
    obtain ⟨h3, hF⟩ := zg_e hF
    refine z_min hX hl.1 (hts (.methodLink RX7 53 Lib.Math.min.name) (by decide +kernel)) (hts (.static Lib.Math.min.name) (by decide +kernel)) (hts (.initialized "java/lang/Math") (by decide +kernel)) (hts (.code Lib.Math.min.name Lib.Math.min.code 2 (some .int)) (by decide +kernel)) (Nat.le_of_ble_eq_true rfl) (Nat.le_of_ble_eq_true rfl) (by decide) h3 dX7_gone_21 ?_
    obtain ⟨h4, hF⟩ := zg_e hF
    refine z_icmp_ge (tgt := 45) hx hb h1 h4 dX7_gone_24 (by decide) (fun hc => ?_) (fun hc => ?_)
    · have hF := zi_t hF hc
      refine z_bipush (v := -5) hx hb dX7_gone_45 (by decide +kernel) ?_
      exact z_iret hX hr hlocks hH hF rfl dX7_gone_47
    · have hF := zi_f hF hc
      refine lv_aload_n hx hb dX7_gone_27 rfl (lv_at hl 1 rfl) ?_
      refine z_getr hX hH 0 0 1 rfl rfl flX7_gone_14 dX7_gone_28 ?_
      refine z_getr hX hH 1 4 17 rfl rfl flX7_gone_74 dX7_gone_31 ?_
      refine lv_iload_n hx hb dX7_gone_34 rfl (lv_at hl 0 rfl) ?_
      refine z_iconst hx hb dX7_gone_35 ?_
      refine z_isub hx hb dX7_gone_36 ?_
      refine lv_iload_n hx hb dX7_gone_37 rfl (lv_at hl 2 rfl) ?_
      refine z_isub hx hb dX7_gone_38 ?_
      obtain ⟨r7, M6, c5, hF⟩ := zc2_e hF
      obtain ⟨M8, eM8, hF⟩ := zl_e hF
      refine z_callVi (As := [.int (nZ ((v2 - (1:Int)) - a1))]) hX hH 17 1 (em_LX_is_17n2 κ) (ctX1_at l D cs (zsb is_17n2 α) N (zpk is_17n2 M) ((v2 - (1:Int)) - a1) r7 M6 c5) (cwV 1 hts gX7_gone_X1_at rfl rfl rfl (by decide +kernel) ⟨Nat.le_of_ble_eq_true rfl, Nat.le_of_ble_eq_true rfl⟩) rfl rfl rfl hl.1 (Nat.le_of_ble_eq_true rfl) rfl dX7_gone_39 ⟨Nat.zero_le _, Nat.zero_le _⟩ (fun H locs hH => ?_)
      rw [← eM8] at hH
      refine lv_goto (tgt := 47) hx hb dX7_gone_42 (by decide) ?_
      exact z_iret hX hr hlocks hH hF rfl dX7_gone_47
  · have hF := zi_f hF hc
    refine z_iconst hx hb dX7_gone_4 ?_
    exact z_iret hX hr hlocks hH hF rfl dX7_gone_5
theorem flX7_rehearse_18 : zF RX7 wsX7_rehearse 18 7 1 := ⟨_, TX7, _, rfl, by decide +kernel, by decide +kernel, by decide, rfl⟩
theorem flX7_rehearse_14 : zF RX7 wsX7_rehearse 14 7 0 := ⟨_, TX7, _, rfl, by decide +kernel, by decide +kernel, by decide, rfl⟩
theorem em_LX_is_22n21_1n21 (κ : Bool) : zemb (LX κ) LSt2 is_22n21_1n21 = true := by cases κ <;> decide +kernel
theorem flX7_rehearse_49 : zF RX7 wsX7_rehearse 49 3 0 := ⟨_, TX3, _, rfl, by decide +kernel, by decide +kernel, by decide, rfl⟩
theorem em_LX_is_22n21 (κ : Bool) : zemb (LX κ) LSt is_22n21 = true := by cases κ <;> decide +kernel
set_option maxHeartbeats 4000000 in
set_option maxRecDepth 100000 in
theorem ctX7_rehearse (l : Launch) (κ : Bool) (D : va_G) (cs : Nat → ClassId) (α : Nat → Nat) (N : Nat) (M : zM) (a1 : Int) (a2 : Int) (M' : zM) (hF : fX7_rehearse N a1 a2 M = some M') : Met l yX7_rehearse wsX7_rehearse ({ frames := 4, cells := 0, slots := 0, locals := 91 }) (zPre D cs (LX κ) α M [.ref (α 0), .int (nZ a1), .int (nZ a2)]) (zQv D cs (LX κ) α M') 0 0 (zA (LX κ).length α) := by
  refine z_met (cc := cX7_rehearse) (maxL := 3) (ret := none) (by decide +kernel) rfl RX7 rfl (Nat.le_of_ble_eq_true rfl) ?_
  intro p e s m below meth c ls hX hr hlocks hH hl
  have hx := hX.1.1
  have hb := hX.1.2.1
  have hts := hX.1.2.2.2.2
  have hl : lv_has ls 3 [(0, .ref (α 0)), (1, .int (nZ a1)), (2, .int (nZ a2))] := hl
  unfold fX7_rehearse at hF
  refine lv_aload_n hx hb dX7_rehearse_0 rfl (lv_at hl 0 rfl) ?_
  refine z_getr hX hH 0 1 22 rfl rfl flX7_rehearse_18 dX7_rehearse_1 ?_
  refine lv_aload_n hx hb dX7_rehearse_4 rfl (lv_at hl 0 rfl) ?_
  refine z_getr hX hH 0 0 1 rfl rfl flX7_rehearse_14 dX7_rehearse_5 ?_
  obtain ⟨M2, c1, hF⟩ := zc_e hF
  obtain ⟨M3, eM3, hF⟩ := zl_e hF
  refine z_callVv (As := [.ref (α 1)]) hX hH 22 3 (em_LX_is_22n21_1n21 κ) (ctX3_copyFrom l D cs (zsb is_22n21_1n21 α) N (zpk is_22n21_1n21 M)  M2 c1) (cwV 1 hts gX7_rehearse_X3_copyFrom rfl rfl rfl (by decide +kernel) ⟨Nat.le_of_ble_eq_true rfl, Nat.le_of_ble_eq_true rfl⟩) rfl rfl rfl hl.1 (Nat.le_of_ble_eq_true rfl) rfl dX7_rehearse_8 ⟨Nat.zero_le _, Nat.zero_le _⟩ (fun H locs hH => ?_)
  rw [← eM3] at hH
  refine lv_aload_n hx hb dX7_rehearse_11 rfl (lv_at hl 0 rfl) ?_
  refine z_getr hX hH 0 1 22 rfl rfl flX7_rehearse_18 dX7_rehearse_12 ?_
  refine z_getr hX hH 22 0 23 rfl rfl flX7_rehearse_49 dX7_rehearse_15 ?_
  refine z_iconst hx hb dX7_rehearse_18 ?_
  refine lv_iload_n hx hb dX7_rehearse_19 rfl (lv_at hl 1 rfl) ?_
  obtain ⟨M4, eM4, hF⟩ := zl_e hF
  refine z_iast hX hH 23 4 eM4 rfl (by decide) (by decide) dX7_rehearse_20 (fun H locs hH => ?_)
  refine lv_aload_n hx hb dX7_rehearse_21 rfl (lv_at hl 0 rfl) ?_
  refine z_getr hX hH 0 1 22 rfl rfl flX7_rehearse_18 dX7_rehearse_22 ?_
  refine z_getr hX hH 22 0 23 rfl rfl flX7_rehearse_49 dX7_rehearse_25 ?_
  refine z_iconst hx hb dX7_rehearse_28 ?_
  refine lv_iload_n hx hb dX7_rehearse_29 rfl (lv_at hl 2 rfl) ?_
  obtain ⟨M5, eM5, hF⟩ := zl_e hF
  refine z_iast hX hH 23 4 eM5 rfl (by decide) (by decide) dX7_rehearse_30 (fun H locs hH => ?_)
  refine lv_aload_n hx hb dX7_rehearse_31 rfl (lv_at hl 0 rfl) ?_
  refine z_getr hX hH 0 1 22 rfl rfl flX7_rehearse_18 dX7_rehearse_32 ?_
  obtain ⟨M7, c6, hF⟩ := zc_e hF
  obtain ⟨M8, eM8, hF⟩ := zl_e hF
  refine z_callVv (As := []) hX hH 22 3 (em_LX_is_22n21 κ) (ctX3_trim l D cs (zsb is_22n21 α) N (zpk is_22n21 M5)  M7 c6) (cwV 0 hts gX7_rehearse_X3_trim rfl rfl rfl (by decide +kernel) ⟨Nat.le_of_ble_eq_true rfl, Nat.le_of_ble_eq_true rfl⟩) rfl rfl rfl hl.1 (Nat.le_of_ble_eq_true rfl) rfl dX7_rehearse_35 ⟨Nat.zero_le _, Nat.zero_le _⟩ (fun H locs hH => ?_)
  rw [← eM8] at hH
  exact z_vret hX hr hlocks hH hF dX7_rehearse_38
theorem flX7_victim_14 : zF RX7 wsX7_victim 14 7 0 := ⟨_, TX7, _, rfl, by decide +kernel, by decide +kernel, by decide, rfl⟩
theorem flX7_victim_74 : zF RX7 wsX7_victim 74 3 4 := ⟨_, TX3, _, rfl, by decide +kernel, by decide +kernel, by decide, rfl⟩
theorem flX7_victim_78 : zF RX7 wsX7_victim 78 1 1 := ⟨_, TX1, _, rfl, by decide +kernel, by decide +kernel, by decide, rfl⟩
theorem flX7_victim_18 : zF RX7 wsX7_victim 18 7 1 := ⟨_, TX7, _, rfl, by decide +kernel, by decide +kernel, by decide, rfl⟩
theorem em_LX_is_38n2 (κ : Bool) : zemb (LX κ) LLeav is_38n2 = true := by cases κ <;> decide +kernel
set_option maxHeartbeats 4000000 in
set_option maxRecDepth 100000 in
theorem ctX7_victim (l : Launch) (κ : Bool) (D : va_G) (cs : Nat → ClassId) (α : Nat → Nat) (N : Nat) (M : zM) (a1 : Int) (r : Int) (M' : zM) (hF : fX7_victim N a1 M = some (r, M')) : Met l yX7_victim wsX7_victim ({ frames := 5, cells := 0, slots := 0, locals := 113 }) (zPre D cs (LX κ) α M [.ref (α 0), .int (nZ a1)]) (zQi D cs (LX κ) α r M') 0 0 (zA (LX κ).length α) := by
  refine z_met (cc := cX7_victim) (maxL := 4) (ret := (some .int)) (by decide +kernel) rfl RX7 rfl (Nat.le_of_ble_eq_true rfl) ?_
  intro p e s m below meth c ls hX hr hlocks hH hl
  have hx := hX.1.1
  have hb := hX.1.2.1
  have hts := hX.1.2.2.2.2
  have hl : lv_has ls 4 [(0, .ref (α 0)), (1, .int (nZ a1))] := hl
  unfold fX7_victim at hF
  refine lv_iload_n hx hb dX7_victim_0 rfl (lv_at hl 1 rfl) ?_
  obtain ⟨h1, hF⟩ := zg_e hF
  refine z_if_ge (tgt := 6) hx hb h1 dX7_victim_1 (by decide) (fun hc => ?_) (fun hc => ?_)
  · have hF := zi_t hF hc
    refine lv_aload_n hx hb dX7_victim_6 rfl (lv_at hl 0 rfl) ?_
    refine z_iconst hx hb dX7_victim_7 ?_
    refine z_iconst hx hb dX7_victim_8 ?_
    obtain ⟨M3, c2, hF⟩ := zc_e hF
    refine z_sameVv (As := [.int (nZ (0:Int)), .int (nZ (0:Int))]) hX hH 0 7 (ctX7_rehearse l κ D cs α N M (0:Int) (0:Int) M3 c2) (cwV 2 hts gX7_victim_X7_rehearse rfl rfl rfl (by decide +kernel) ⟨Nat.le_of_ble_eq_true rfl, Nat.le_of_ble_eq_true rfl⟩) rfl rfl rfl hl.1 (Nat.le_of_ble_eq_true rfl) rfl dX7_victim_9 ⟨Nat.zero_le _, Nat.zero_le _⟩ (fun H locs hH => ?_)
    refine lv_aload_n hx hb dX7_victim_12 rfl (lv_at hl 0 rfl) ?_
    refine z_getr hX hH 0 0 1 rfl rfl flX7_victim_14 dX7_victim_13 ?_
    refine z_getr hX hH 1 4 17 rfl rfl flX7_victim_74 dX7_victim_16 ?_
    refine z_geti hX hH 17 1 rfl rfl flX7_victim_78 dX7_victim_19 ?_
    obtain ⟨v4, ev4, hF⟩ := zl_e hF
    refine z_istore_n ev4 (lv' := [(2, .int (nZ v4)), (0, .ref (α 0)), (1, .int (nZ a1))]) hx hb dX7_victim_22 rfl hl (by decide) rfl (fun ls hl => ?_)
    refine lv_aload_n hx hb dX7_victim_23 rfl (lv_at hl 1 rfl) ?_
    refine z_getr hX hH 0 1 22 rfl rfl flX7_victim_18 dX7_victim_24 ?_
    refine z_getr hX hH 22 4 38 rfl rfl flX7_victim_74 dX7_victim_27 ?_
    refine z_geti hX hH 38 1 rfl rfl flX7_victim_78 dX7_victim_30 ?_
    obtain ⟨v5, ev5, hF⟩ := zl_e hF
    refine z_istore_n ev5 (lv' := [(3, .int (nZ v5)), (2, .int (nZ v4)), (0, .ref (α 0)), (1, .int (nZ a1))]) hx hb dX7_victim_33 rfl hl (by decide) rfl (fun ls hl => ?_)
    refine lv_iload_n hx hb dX7_victim_34 rfl (lv_at hl 3 rfl) ?_
    refine lv_iload_n hx hb dX7_victim_35 rfl (lv_at hl 0 rfl) ?_
    refine lv_iload_n hx hb dX7_victim_36 rfl (lv_at hl 1 rfl) ?_
    refine z_isub hx hb dX7_victim_37 ?_
    obtain ⟨h6, hF⟩ := zg_e hF
    refine z_icmp_ge (tgt := 57) hx hb h1 h6 dX7_victim_38 (by decide) (fun hc => ?_) (fun hc => ?_)
    · have hF := zi_t hF hc
      refine z_bipush (v := -5) hx hb dX7_victim_57 (by decide +kernel) ?_
      exact z_iret hX hr hlocks hH hF rfl dX7_victim_59
    · have hF := zi_f hF hc
      refine lv_aload_n hx hb dX7_victim_41 rfl (lv_at hl 2 rfl) ?_
      refine z_getr hX hH 0 1 22 rfl rfl flX7_victim_18 dX7_victim_42 ?_
      refine z_getr hX hH 22 4 38 rfl rfl flX7_victim_74 dX7_victim_45 ?_
      refine lv_iload_n hx hb dX7_victim_48 rfl (lv_at hl 1 rfl) ?_
      refine lv_iload_n hx hb dX7_victim_49 rfl (lv_at hl 3 rfl) ?_
      refine z_iadd hx hb dX7_victim_50 ?_
      obtain ⟨r9, M8, c7, hF⟩ := zc2_e hF
      obtain ⟨M10, eM10, hF⟩ := zl_e hF
      refine z_callVi (As := [.int (nZ (v4 + a1))]) hX hH 38 1 (em_LX_is_38n2 κ) (ctX1_at l D cs (zsb is_38n2 α) N (zpk is_38n2 M3) (v4 + a1) r9 M8 c7) (cwV 1 hts gX7_victim_X1_at rfl rfl rfl (by decide +kernel) ⟨Nat.le_of_ble_eq_true rfl, Nat.le_of_ble_eq_true rfl⟩) rfl rfl rfl hl.1 (Nat.le_of_ble_eq_true rfl) rfl dX7_victim_51 ⟨Nat.zero_le _, Nat.zero_le _⟩ (fun H locs hH => ?_)
      rw [← eM10] at hH
      refine lv_goto (tgt := 59) hx hb dX7_victim_54 (by decide) ?_
      exact z_iret hX hr hlocks hH hF rfl dX7_victim_59
  · have hF := zi_f hF hc
    refine z_iconst hx hb dX7_victim_4 ?_
    exact z_iret hX hr hlocks hH hF rfl dX7_victim_5
theorem flX7_feed_24 : zF RX7 wsX7_feed 24 7 3 := ⟨_, TX7, _, rfl, by decide +kernel, by decide +kernel, by decide, rfl⟩
theorem flX7_feed_124 : zF RX7 wsX7_feed 124 5 1 := ⟨_, TX5, _, rfl, by decide +kernel, by decide +kernel, by decide, rfl⟩
theorem flX7_feed_127 : zF RX7 wsX7_feed 127 5 0 := ⟨_, TX5, _, rfl, by decide +kernel, by decide +kernel, by decide, rfl⟩
theorem fpX7_feed_124 : zFp RX7 wsX7_feed 124 5 1 .int := ⟨_, TX5, _, tyX5, rfl, by decide +kernel, by decide +kernel, by decide, rfl, tyX5_ok, nmX5, rfl, by decide +kernel⟩
set_option maxHeartbeats 4000000 in
set_option maxRecDepth 100000 in
theorem ctX7_feed (l : Launch) (κ : Bool) (D : va_G) (cs : Nat → ClassId) (α : Nat → Nat) (N : Nat) (M : zM) (a1 : Int) (r : Int) (M' : zM) (hF : fX7_feed N a1 M = some (r, M')) : Met l yX7_feed wsX7_feed ({ frames := 0, cells := 0, slots := 0, locals := 0 }) (zPre D cs (LX κ) α M [.ref (α 0), .int (nZ a1)]) (zQi D cs (LX κ) α r M') 0 0 (zA (LX κ).length α) := by
  refine z_met (cc := cX7_feed) (maxL := 2) (ret := (some .int)) (by decide +kernel) rfl RX7 rfl (Nat.le_of_ble_eq_true rfl) ?_
  intro p e s m below meth c ls hX hr hlocks hH hl
  have hx := hX.1.1
  have hb := hX.1.2.1
  have hts := hX.1.2.2.2.2
  have hl : lv_has ls 2 [(0, .ref (α 0)), (1, .int (nZ a1))] := hl
  unfold fX7_feed at hF
  refine lv_iload_n hx hb dX7_feed_0 rfl (lv_at hl 1 rfl) ?_
  obtain ⟨h1, hF⟩ := zg_e hF
  refine z_if_lt (tgt := 10) hx hb h1 dX7_feed_1 (by decide) (fun hc => ?_) (fun hc => ?_)
  · have hF := zi_t hF hc
    refine z_bipush (v := -2) hx hb dX7_feed_10 (by decide +kernel) ?_
    exact z_iret hX hr hlocks hH hF rfl dX7_feed_12
  · have hF := zi_f hF hc
    refine lv_iload_n hx hb dX7_feed_4 rfl (lv_at hl 1 rfl) ?_
    refine z_bipush (v := 127) hx hb dX7_feed_5 (by decide +kernel) ?_
    refine z_icmp_le (tgt := 13) hx hb h1 (by decide) dX7_feed_7 (by decide) (fun hc => ?_) (fun hc => ?_)
    · have hF := zi_t hF hc
      refine lv_aload_n hx hb dX7_feed_13 rfl (lv_at hl 0 rfl) ?_
      refine z_getr hX hH 0 3 43 rfl rfl flX7_feed_24 dX7_feed_14 ?_
      refine z_geti hX hH 43 1 rfl rfl flX7_feed_124 dX7_feed_17 ?_
      refine z_bipush (v := 100) hx hb dX7_feed_20 (by decide +kernel) ?_
      obtain ⟨h2, hF⟩ := zg_e hF
      refine z_icmp_lt (tgt := 28) hx hb h2 (by decide) dX7_feed_22 (by decide) (fun hc => ?_) (fun hc => ?_)
      · have hF := zi_t hF hc
        refine lv_aload_n hx hb dX7_feed_28 rfl (lv_at hl 0 rfl) ?_
        refine z_getr hX hH 0 3 43 rfl rfl flX7_feed_24 dX7_feed_29 ?_
        refine z_getr hX hH 43 0 44 rfl rfl flX7_feed_127 dX7_feed_32 ?_
        refine lv_aload_n hx hb dX7_feed_35 rfl (lv_at hl 0 rfl) ?_
        refine z_getr hX hH 0 3 43 rfl rfl flX7_feed_24 dX7_feed_36 ?_
        refine z_geti hX hH 43 1 rfl rfl flX7_feed_124 dX7_feed_39 ?_
        refine lv_iload_n hx hb dX7_feed_42 rfl (lv_at hl 1 rfl) ?_
        obtain ⟨h3, hF⟩ := zg_e hF
        obtain ⟨M4, eM4, hF⟩ := zl_e hF
        refine z_iast hX hH 44 100 eM4 rfl h3 (by decide) dX7_feed_43 (fun H locs hH => ?_)
        refine lv_aload_n hx hb dX7_feed_44 rfl (lv_at hl 0 rfl) ?_
        refine z_getr hX hH 0 3 43 rfl rfl flX7_feed_24 dX7_feed_45 ?_
        refine lv_dup hx hb dX7_feed_48 rfl ?_
        refine z_geti hX hH 43 1 rfl rfl flX7_feed_124 dX7_feed_49 ?_
        refine z_iconst hx hb dX7_feed_52 ?_
        refine z_iadd hx hb dX7_feed_53 ?_
        obtain ⟨M5, eM5, hF⟩ := zl_e hF
        refine z_put hX hH 43 1 eM5 rfl rfl fpX7_feed_124 rfl rfl dX7_feed_54 (fun H locs hH => ?_)
        refine lv_aload_n hx hb dX7_feed_57 rfl (lv_at hl 0 rfl) ?_
        refine z_getr hX hH 0 3 43 rfl rfl flX7_feed_24 dX7_feed_58 ?_
        refine z_geti hX hH 43 1 rfl rfl flX7_feed_124 dX7_feed_61 ?_
        exact z_iret hX hr hlocks hH hF rfl dX7_feed_64
      · have hF := zi_f hF hc
        refine z_bipush (v := -4) hx hb dX7_feed_25 (by decide +kernel) ?_
        exact z_iret hX hr hlocks hH hF rfl dX7_feed_27
    · have hF := zi_f hF hc
      refine z_bipush (v := -2) hx hb dX7_feed_10 (by decide +kernel) ?_
      exact z_iret hX hr hlocks hH hF rfl dX7_feed_12
theorem flX7_trace_130 : zF RX7 wsX7_trace 130 7 5 := ⟨_, TX7, _, rfl, by decide +kernel, by decide +kernel, by decide, rfl⟩
theorem flX7_trace_24 : zF RX7 wsX7_trace 24 7 3 := ⟨_, TX7, _, rfl, by decide +kernel, by decide +kernel, by decide, rfl⟩
theorem flX7_trace_30 : zF RX7 wsX7_trace 30 7 4 := ⟨_, TX7, _, rfl, by decide +kernel, by decide +kernel, by decide, rfl⟩
theorem ra_LX_46 : ∀ i : Nat, i < 6 → ([46, 50, 54, 58, 62, 66] : List Nat)[i]? = some (46 + 4 * i) := fun i h => match i, h with | 0, _ => rfl | 1, _ => rfl | 2, _ => rfl | 3, _ => rfl | 4, _ => rfl | 5, _ => rfl | n + 6, h => absurd h (by omega)
theorem em_LX_is_43n2_f46n4 (κ : Bool) : ∀ i : Nat, i < 6 → zemb (LX κ) LTxTr (is_43n2_f46n4 i) = true := fun i h => match i, h with | 0, _ => by cases κ <;> decide +kernel | 1, _ => by cases κ <;> decide +kernel | 2, _ => by cases κ <;> decide +kernel | 3, _ => by cases κ <;> decide +kernel | 4, _ => by cases κ <;> decide +kernel | 5, _ => by cases κ <;> decide +kernel | n + 6, h => absurd h (by omega)
theorem fpX7_trace_124 : zFp RX7 wsX7_trace 124 5 1 .int := ⟨_, TX5, _, tyX5, rfl, by decide +kernel, by decide +kernel, by decide, rfl, tyX5_ok, nmX5, rfl, by decide +kernel⟩
theorem fpX7_trace_130 : zFp RX7 wsX7_trace 130 7 5 .int := ⟨_, TX7, _, tyX7, rfl, by decide +kernel, by decide +kernel, by decide, rfl, tyX7_ok, nmX7, rfl, by decide +kernel⟩
set_option maxHeartbeats 4000000 in
set_option maxRecDepth 100000 in
theorem ctX7_trace (l : Launch) (κ : Bool) (D : va_G) (cs : Nat → ClassId) (α : Nat → Nat) (N : Nat) (M : zM) (r : Int) (M' : zM) (hF : fX7_trace N M = some (r, M')) : Met l yX7_trace wsX7_trace ({ frames := 5, cells := 0, slots := 0, locals := 113 }) (zPre D cs (LX κ) α M [.ref (α 0)]) (zQi D cs (LX κ) α r M') 0 0 (zA (LX κ).length α) := by
  refine z_met (cc := cX7_trace) (maxL := 2) (ret := (some .int)) (by decide +kernel) rfl RX7 rfl (Nat.le_of_ble_eq_true rfl) ?_
  intro p e s m below meth c ls hX hr hlocks hH hl
  have hx := hX.1.1
  have hb := hX.1.2.1
  have hts := hX.1.2.2.2.2
  have hl : lv_has ls 2 [(0, .ref (α 0))] := hl
  unfold fX7_trace at hF
  refine lv_aload_n hx hb dX7_trace_0 rfl (lv_at hl 0 rfl) ?_
  refine z_geti hX hH 0 5 rfl rfl flX7_trace_130 dX7_trace_1 ?_
  refine z_bipush (v := 6) hx hb dX7_trace_4 (by decide +kernel) ?_
  obtain ⟨h1, hF⟩ := zg_e hF
  refine z_icmp_lt (tgt := 12) hx hb h1 (by decide) dX7_trace_6 (by decide) (fun hc => ?_) (fun hc => ?_)
  · have hF := zi_t hF hc
    refine lv_aload_n hx hb dX7_trace_12 rfl (lv_at hl 0 rfl) ?_
    refine z_getr hX hH 0 3 43 rfl rfl flX7_trace_24 dX7_trace_13 ?_
    refine lv_aload_n hx hb dX7_trace_16 rfl (lv_at hl 0 rfl) ?_
    refine z_getr hX hH 0 4 45 rfl rfl flX7_trace_30 dX7_trace_17 ?_
    refine lv_aload_n hx hb dX7_trace_20 rfl (lv_at hl 0 rfl) ?_
    refine z_geti hX hH 0 5 rfl rfl flX7_trace_130 dX7_trace_21 ?_
    obtain ⟨h2, hF⟩ := zg_e hF
    have h3 : (M 0 5).toNat < 6 := by have := h2.1; have := h2.2; omega
    refine z_aald (ts := [46, 50, 54, 58, 62, 66]) hX hH 45 3 (46 + 4 * (M 0 5).toNat) rfl rfl rfl h2 (by decide) (ra_LX_46 (M 0 5).toNat h3) dX7_trace_24 ?_
    obtain ⟨r6, M5, c4, hF⟩ := zc2_e hF
    obtain ⟨M7, eM7, hF⟩ := zl_e hF
    refine z_callVi (As := [.ref (α (46 + 4 * (M 0 5).toNat))]) hX hH 43 5 (em_LX_is_43n2_f46n4 κ (M 0 5).toNat h3) (ctX5_readInto l D cs (zsb (is_43n2_f46n4 (M 0 5).toNat) α) N (zpk (is_43n2_f46n4 (M 0 5).toNat) M)  r6 M5 c4) (cwV 1 hts gX7_trace_X5_readInto rfl rfl rfl (by decide +kernel) ⟨Nat.le_of_ble_eq_true rfl, Nat.le_of_ble_eq_true rfl⟩) rfl rfl rfl hl.1 (Nat.le_of_ble_eq_true rfl) rfl dX7_trace_25 ⟨Nat.zero_le _, Nat.zero_le _⟩ (fun H locs hH => ?_)
    rw [← eM7] at hH
    obtain ⟨v8, ev8, hF⟩ := zl_e hF
    refine z_istore_n ev8 (lv' := [(1, .int (nZ v8)), (0, .ref (α 0))]) hx hb dX7_trace_28 rfl hl (by decide) rfl (fun ls hl => ?_)
    refine lv_aload_n hx hb dX7_trace_29 rfl (lv_at hl 1 rfl) ?_
    refine z_getr hX hH 0 3 43 rfl rfl flX7_trace_24 dX7_trace_30 ?_
    refine z_iconst hx hb dX7_trace_33 ?_
    obtain ⟨M9, eM9, hF⟩ := zl_e hF
    refine z_put hX hH 43 1 eM9 rfl rfl fpX7_trace_124 rfl rfl dX7_trace_34 (fun H locs hH => ?_)
    refine lv_iload_n hx hb dX7_trace_37 rfl (lv_at hl 0 rfl) ?_
    obtain ⟨h10, hF⟩ := zg_e hF
    refine z_if_lt (tgt := 46) hx hb h10 dX7_trace_38 (by decide) (fun hc => ?_) (fun hc => ?_)
    · have hF := zi_t hF hc
      refine lv_aload_n hx hb dX7_trace_46 rfl (lv_at hl 1 rfl) ?_
      refine lv_dup hx hb dX7_trace_47 rfl ?_
      refine z_geti hX hH 0 5 rfl rfl flX7_trace_130 dX7_trace_48 ?_
      refine z_iconst hx hb dX7_trace_51 ?_
      refine z_iadd hx hb dX7_trace_52 ?_
      obtain ⟨M11, eM11, hF⟩ := zl_e hF
      refine z_put hX hH 0 5 eM11 rfl rfl fpX7_trace_130 rfl rfl dX7_trace_53 (fun H locs hH => ?_)
      refine lv_aload_n hx hb dX7_trace_56 rfl (lv_at hl 1 rfl) ?_
      refine z_geti hX hH 0 5 rfl rfl flX7_trace_130 dX7_trace_57 ?_
      refine z_iconst hx hb dX7_trace_60 ?_
      refine z_isub hx hb dX7_trace_61 ?_
      exact z_iret hX hr hlocks hH hF rfl dX7_trace_62
    · have hF := zi_f hF hc
      refine z_bipush (v := -10) hx hb dX7_trace_41 (by decide +kernel) ?_
      refine lv_iload_n hx hb dX7_trace_43 rfl (lv_at hl 0 rfl) ?_
      refine z_isub hx hb dX7_trace_44 ?_
      exact z_iret hX hr hlocks hH hF rfl dX7_trace_45
  · have hF := zi_f hF hc
    refine z_bipush (v := -4) hx hb dX7_trace_9 (by decide +kernel) ?_
    exact z_iret hX hr hlocks hH hF rfl dX7_trace_11
theorem flX7_isTrace_130 : zF RX7 wsX7_isTrace 130 7 5 := ⟨_, TX7, _, rfl, by decide +kernel, by decide +kernel, by decide, rfl⟩
set_option maxHeartbeats 4000000 in
set_option maxRecDepth 100000 in
theorem ctX7_isTrace (l : Launch) (κ : Bool) (D : va_G) (cs : Nat → ClassId) (α : Nat → Nat) (N : Nat) (M : zM) (a1 : Int) (r : Int) (M' : zM) (hF : fX7_isTrace N a1 M = some (r, M')) : Met l yX7_isTrace wsX7_isTrace ({ frames := 0, cells := 0, slots := 0, locals := 0 }) (zPre D cs (LX κ) α M [.ref (α 0), .int (nZ a1)]) (zQi D cs (LX κ) α r M') 0 0 (zA (LX κ).length α) := by
  refine z_met (cc := cX7_isTrace) (maxL := 2) (ret := (some .boolean)) (by decide +kernel) rfl RX7 rfl (Nat.le_of_ble_eq_true rfl) ?_
  intro p e s m below meth c ls hX hr hlocks hH hl
  have hx := hX.1.1
  have hb := hX.1.2.1
  have hts := hX.1.2.2.2.2
  have hl : lv_has ls 2 [(0, .ref (α 0)), (1, .int (nZ a1))] := hl
  unfold fX7_isTrace at hF
  refine lv_iload_n hx hb dX7_isTrace_0 rfl (lv_at hl 1 rfl) ?_
  obtain ⟨h1, hF⟩ := zg_e hF
  refine z_if_lt (tgt := 16) hx hb h1 dX7_isTrace_1 (by decide) (fun hc => ?_) (fun hc => ?_)
  · have hF := zi_t hF hc
    refine z_iconst hx hb dX7_isTrace_16 ?_
    exact z_iret hX hr hlocks hH hF rfl dX7_isTrace_17
  · have hF := zi_f hF hc
    refine lv_iload_n hx hb dX7_isTrace_4 rfl (lv_at hl 1 rfl) ?_
    refine lv_aload_n hx hb dX7_isTrace_5 rfl (lv_at hl 0 rfl) ?_
    refine z_geti hX hH 0 5 rfl rfl flX7_isTrace_130 dX7_isTrace_6 ?_
    obtain ⟨h2, hF⟩ := zg_e hF
    refine z_icmp_ge (tgt := 16) hx hb h1 h2 dX7_isTrace_9 (by decide) (fun hc => ?_) (fun hc => ?_)
    · have hF := zi_t hF hc
      refine z_iconst hx hb dX7_isTrace_16 ?_
      exact z_iret hX hr hlocks hH hF rfl dX7_isTrace_17
    · have hF := zi_f hF hc
      refine z_iconst hx hb dX7_isTrace_12 ?_
      refine lv_goto (tgt := 17) hx hb dX7_isTrace_13 (by decide) ?_
      exact z_iret hX hr hlocks hH hF rfl dX7_isTrace_17
theorem flX7_run_14 : zF RX7 wsX7_run 14 7 0 := ⟨_, TX7, _, rfl, by decide +kernel, by decide +kernel, by decide, rfl⟩
theorem flX7_run_30 : zF RX7 wsX7_run 30 7 4 := ⟨_, TX7, _, rfl, by decide +kernel, by decide +kernel, by decide, rfl⟩
theorem em_LX_is_1n21_f46n4 (κ : Bool) : ∀ i : Nat, i < 6 → zemb (LX κ) LStTr (is_1n21_f46n4 i) = true := fun i h => match i, h with | 0, _ => by cases κ <;> decide +kernel | 1, _ => by cases κ <;> decide +kernel | 2, _ => by cases κ <;> decide +kernel | 3, _ => by cases κ <;> decide +kernel | 4, _ => by cases κ <;> decide +kernel | 5, _ => by cases κ <;> decide +kernel | n + 6, h => absurd h (by omega)
set_option maxHeartbeats 4000000 in
set_option maxRecDepth 100000 in
theorem ctX7_run (l : Launch) (κ : Bool) (D : va_G) (cs : Nat → ClassId) (α : Nat → Nat) (N : Nat) (M : zM) (a1 : Int) (r : Int) (M' : zM) (hF : fX7_run N a1 M = some (r, M')) : Met l yX7_run wsX7_run ({ frames := 6, cells := 0, slots := 0, locals := 144 }) (zPre D cs (LX κ) α M [.ref (α 0), .int (nZ a1)]) (zQi D cs (LX κ) α r M') 0 0 (zA (LX κ).length α) := by
  refine z_met (cc := cX7_run) (maxL := 2) (ret := (some .int)) (by decide +kernel) rfl RX7 rfl (Nat.le_of_ble_eq_true rfl) ?_
  intro p e s m below meth c ls hX hr hlocks hH hl
  have hx := hX.1.1
  have hb := hX.1.2.1
  have hts := hX.1.2.2.2.2
  have hl : lv_has ls 2 [(0, .ref (α 0)), (1, .int (nZ a1))] := hl
  unfold fX7_run at hF
  refine lv_aload_n hx hb dX7_run_0 rfl (lv_at hl 0 rfl) ?_
  refine lv_iload_n hx hb dX7_run_1 rfl (lv_at hl 1 rfl) ?_
  obtain ⟨r3, M2, c1, hF⟩ := zc2_e hF
  refine z_sameVi (As := [.int (nZ a1)]) hX hH 0 7 (ctX7_isTrace l κ D cs α N M a1 r3 M2 c1) (cwV 1 hts gX7_run_X7_isTrace rfl rfl rfl (by decide +kernel) ⟨Nat.le_of_ble_eq_true rfl, Nat.le_of_ble_eq_true rfl⟩) rfl rfl rfl hl.1 (Nat.le_of_ble_eq_true rfl) rfl dX7_run_2 ⟨Nat.zero_le _, Nat.zero_le _⟩ (fun H locs hH => ?_)
  obtain ⟨h4, hF⟩ := zg_e hF
  refine z_if_ne (tgt := 10) hx hb h4 dX7_run_5 (by decide) (fun hc => ?_) (fun hc => ?_)
  · have hF := zi_f hF hc
    refine lv_aload_n hx hb dX7_run_10 rfl (lv_at hl 0 rfl) ?_
    refine z_getr hX hH 0 0 1 rfl rfl flX7_run_14 dX7_run_11 ?_
    refine lv_aload_n hx hb dX7_run_14 rfl (lv_at hl 0 rfl) ?_
    refine z_getr hX hH 0 4 45 rfl rfl flX7_run_30 dX7_run_15 ?_
    refine lv_iload_n hx hb dX7_run_18 rfl (lv_at hl 1 rfl) ?_
    obtain ⟨h5, hF⟩ := zg_e hF
    have h6 : a1.toNat < 6 := by have := h5.1; have := h5.2; omega
    refine z_aald (ts := [46, 50, 54, 58, 62, 66]) hX hH 45 3 (46 + 4 * a1.toNat) rfl rfl rfl h5 (by decide) (ra_LX_46 a1.toNat h6) dX7_run_19 ?_
    obtain ⟨r9, M8, c7, hF⟩ := zc2_e hF
    obtain ⟨M10, eM10, hF⟩ := zl_e hF
    refine z_callVi (As := [.ref (α (46 + 4 * a1.toNat))]) hX hH 1 3 (em_LX_is_1n21_f46n4 κ a1.toNat h6) (ctX3_perform l D cs (zsb (is_1n21_f46n4 a1.toNat) α) N (zpk (is_1n21_f46n4 a1.toNat) M2)  r9 M8 c7) (cwV 1 hts gX7_run_X3_perform rfl rfl rfl (by decide +kernel) ⟨Nat.le_of_ble_eq_true rfl, Nat.le_of_ble_eq_true rfl⟩) rfl rfl rfl hl.1 (Nat.le_of_ble_eq_true rfl) rfl dX7_run_20 ⟨Nat.zero_le _, Nat.zero_le _⟩ (fun H locs hH => ?_)
    rw [← eM10] at hH
    exact z_iret hX hr hlocks hH hF rfl dX7_run_23
  · have hF := zi_t hF hc
    refine z_iconst hx hb dX7_run_8 ?_
    exact z_iret hX hr hlocks hH hF rfl dX7_run_9
