/-! laid by wip/whole/gen.py: contracts -/
theorem flX7_would_18 : zF RX7 wsX7_would 18 7 1 := ⟨_, TX7, _, rfl, by decide +kernel, by decide +kernel, by decide, rfl⟩
theorem flX7_would_14 : zF RX7 wsX7_would 14 7 0 := ⟨_, TX7, _, rfl, by decide +kernel, by decide +kernel, by decide, rfl⟩
theorem flX7_would_30 : zF RX7 wsX7_would 30 7 4 := ⟨_, TX7, _, rfl, by decide +kernel, by decide +kernel, by decide, rfl⟩
theorem em_LX_is_22n21_f46n4 (κ : Bool) : ∀ i : Nat, i < 6 → zemb (LX κ) LStTr (is_22n21_f46n4 i) = true := fun i h => match i, h with | 0, _ => by cases κ <;> decide +kernel | 1, _ => by cases κ <;> decide +kernel | 2, _ => by cases κ <;> decide +kernel | 3, _ => by cases κ <;> decide +kernel | 4, _ => by cases κ <;> decide +kernel | 5, _ => by cases κ <;> decide +kernel | n + 6, h => absurd h (by omega)
theorem flX7_would_74 : zF RX7 wsX7_would 74 3 4 := ⟨_, TX3, _, rfl, by decide +kernel, by decide +kernel, by decide, rfl⟩
theorem flX7_would_78 : zF RX7 wsX7_would 78 1 1 := ⟨_, TX1, _, rfl, by decide +kernel, by decide +kernel, by decide, rfl⟩
theorem flX7_would_71 : zF RX7 wsX7_would 71 3 1 := ⟨_, TX3, _, rfl, by decide +kernel, by decide +kernel, by decide, rfl⟩
theorem flX7_would_49 : zF RX7 wsX7_would 49 3 0 := ⟨_, TX3, _, rfl, by decide +kernel, by decide +kernel, by decide, rfl⟩
set_option maxHeartbeats 4000000 in
set_option maxRecDepth 100000 in
theorem ctX7_would (l : Launch) (κ : Bool) (D : va_G) (cs : Nat → ClassId) (α : Nat → Nat) (N : Nat) (M : zM) (a1 : Int) (a2 : Int) (r : Int) (M' : zM) (hF : fX7_would N a1 a2 M = some (r, M')) : Met l yX7_would wsX7_would ({ frames := 6, cells := 0, slots := 0, locals := 144 }) (zPre D cs (LX κ) α M [.ref (α 0), .int (nZ a1), .int (nZ a2)]) (zQi D cs (LX κ) α r M') 0 0 (zA (LX κ).length α) := by
  refine z_met (cc := cX7_would) (maxL := 3) (ret := (some .int)) (by decide +kernel) rfl RX7 rfl (Nat.le_of_ble_eq_true rfl) ?_
  intro p e s m below meth c ls hX hr hlocks hH hl
  have hx := hX.1.1
  have hb := hX.1.2.1
  have hts := hX.1.2.2.2.2
  have hl : lv_has ls 3 [(0, .ref (α 0)), (1, .int (nZ a1)), (2, .int (nZ a2))] := hl
  unfold fX7_would at hF
  refine lv_aload_n hx hb dX7_would_0 rfl (lv_at hl 0 rfl) ?_
  refine lv_iload_n hx hb dX7_would_1 rfl (lv_at hl 1 rfl) ?_
  obtain ⟨r3, M2, c1, hF⟩ := zc2_e hF
  refine z_sameVi (As := [.int (nZ a1)]) hX hH 0 7 (ctX7_isTrace l κ D cs α N M a1 r3 M2 c1) (cwV 1 hts gX7_would_X7_isTrace rfl rfl rfl (by decide +kernel) ⟨Nat.le_of_ble_eq_true rfl, Nat.le_of_ble_eq_true rfl⟩) rfl rfl rfl hl.1 (Nat.le_of_ble_eq_true rfl) rfl dX7_would_2 ⟨Nat.zero_le _, Nat.zero_le _⟩ (fun H locs hH => ?_)
  obtain ⟨h4, hF⟩ := zg_e hF
  refine z_if_eq (tgt := 17) hx hb h4 dX7_would_5 (by decide) (fun hc => ?_) (fun hc => ?_)
  · have hF := zi_t hF hc
    refine z_iconst hx hb dX7_would_17 ?_
    exact z_iret hX hr hlocks hH hF rfl dX7_would_18
  · have hF := zi_f hF hc
    refine lv_iload_n hx hb dX7_would_8 rfl (lv_at hl 2 rfl) ?_
    obtain ⟨h5, hF⟩ := zg_e hF
    refine z_if_lt (tgt := 17) hx hb h5 dX7_would_9 (by decide) (fun hc => ?_) (fun hc => ?_)
    · have hF := zi_t hF hc
      refine z_iconst hx hb dX7_would_17 ?_
      exact z_iret hX hr hlocks hH hF rfl dX7_would_18
    · have hF := zi_f hF hc
      refine lv_iload_n hx hb dX7_would_12 rfl (lv_at hl 2 rfl) ?_
      refine z_iconst hx hb dX7_would_13 ?_
      refine z_icmp_le (tgt := 19) hx hb h5 (by decide) dX7_would_14 (by decide) (fun hc => ?_) (fun hc => ?_)
      · have hF := zi_t hF hc
        refine lv_aload_n hx hb dX7_would_19 rfl (lv_at hl 0 rfl) ?_
        refine z_getr hX hH 0 1 22 rfl rfl flX7_would_18 dX7_would_20 ?_
        refine lv_aload_n hx hb dX7_would_23 rfl (lv_at hl 0 rfl) ?_
        refine z_getr hX hH 0 0 1 rfl rfl flX7_would_14 dX7_would_24 ?_
        obtain ⟨M7, c6, hF⟩ := zc_e hF
        obtain ⟨M8, eM8, hF⟩ := zl_e hF
        refine z_callVv (As := [.ref (α 1)]) hX hH 22 3 (em_LX_is_22n21_1n21 κ) (ctX3_copyFrom l D cs (zsb is_22n21_1n21 α) N (zpk is_22n21_1n21 M2)  M7 c6) (cwV 1 hts gX7_would_X3_copyFrom rfl rfl rfl (by decide +kernel) ⟨Nat.le_of_ble_eq_true rfl, Nat.le_of_ble_eq_true rfl⟩) rfl rfl rfl hl.1 (Nat.le_of_ble_eq_true rfl) rfl dX7_would_27 ⟨Nat.zero_le _, Nat.zero_le _⟩ (fun H locs hH => ?_)
        rw [← eM8] at hH
        refine lv_aload_n hx hb dX7_would_30 rfl (lv_at hl 0 rfl) ?_
        refine z_getr hX hH 0 1 22 rfl rfl flX7_would_18 dX7_would_31 ?_
        refine lv_aload_n hx hb dX7_would_34 rfl (lv_at hl 0 rfl) ?_
        refine z_getr hX hH 0 4 45 rfl rfl flX7_would_30 dX7_would_35 ?_
        refine lv_iload_n hx hb dX7_would_38 rfl (lv_at hl 1 rfl) ?_
        obtain ⟨h9, hF⟩ := zg_e hF
        have h10 : a1.toNat < 6 := by have := h9.1; have := h9.2; omega
        refine z_aald (ts := [46, 50, 54, 58, 62, 66]) hX hH 45 3 (46 + 4 * a1.toNat) rfl rfl rfl h9 (by decide) (ra_LX_46 a1.toNat h10) dX7_would_39 ?_
        obtain ⟨r13, M12, c11, hF⟩ := zc2_e hF
        obtain ⟨M14, eM14, hF⟩ := zl_e hF
        refine z_callVi (As := [.ref (α (46 + 4 * a1.toNat))]) hX hH 22 3 (em_LX_is_22n21_f46n4 κ a1.toNat h10) (ctX3_perform l D cs (zsb (is_22n21_f46n4 a1.toNat) α) N (zpk (is_22n21_f46n4 a1.toNat) M8)  r13 M12 c11) (cwV 1 hts gX7_would_X3_perform rfl rfl rfl (by decide +kernel) ⟨Nat.le_of_ble_eq_true rfl, Nat.le_of_ble_eq_true rfl⟩) rfl rfl rfl hl.1 (Nat.le_of_ble_eq_true rfl) rfl dX7_would_40 ⟨Nat.zero_le _, Nat.zero_le _⟩ (fun H locs hH => ?_)
        rw [← eM14] at hH
        refine lv_pop hx hb dX7_would_43 rfl ?_
        refine lv_iload_n hx hb dX7_would_44 rfl (lv_at hl 2 rfl) ?_
        by_cases hc : a2 < (0:Int) ∨ (4:Int) < a2
        · have hF := zi_t hF hc
          refine z_tableOut (tgt := 158) hx hb h5 hc dX7_would_45 (by decide) ?_
          refine lv_aload_n hx hb dX7_would_158 rfl (lv_at hl 0 rfl) ?_
          refine z_getr hX hH 0 1 22 rfl rfl flX7_would_18 dX7_would_159 ?_
          refine z_getr hX hH 22 4 38 rfl rfl flX7_would_74 dX7_would_162 ?_
          refine z_geti hX hH 38 1 rfl rfl flX7_would_78 dX7_would_165 ?_
          refine lv_aload_n hx hb dX7_would_168 rfl (lv_at hl 0 rfl) ?_
          refine z_getr hX hH 0 0 1 rfl rfl flX7_would_14 dX7_would_169 ?_
          refine z_getr hX hH 1 4 17 rfl rfl flX7_would_74 dX7_would_172 ?_
          refine z_geti hX hH 17 1 rfl rfl flX7_would_78 dX7_would_175 ?_
          refine z_isub hx hb dX7_would_178 ?_
          exact z_iret hX hr hlocks hH hF rfl dX7_would_179
        have hF := zi_f hF hc
        by_cases hc : a2 = (0:Int)
        · have hF := zi_t hF hc
          refine z_tableIn (tgt := 80) (v := 0) hx hb hc (by decide) dX7_would_45 (by decide +kernel) (by decide +kernel) rfl (by decide) ?_
          refine lv_aload_n hx hb dX7_would_80 rfl (lv_at hl 0 rfl) ?_
          refine z_getr hX hH 0 1 22 rfl rfl flX7_would_18 dX7_would_81 ?_
          refine z_getr hX hH 22 1 24 rfl rfl flX7_would_71 dX7_would_84 ?_
          refine z_iconst hx hb dX7_would_87 ?_
          refine z_iald hX hH 24 5 rfl (by decide) (by decide) dX7_would_88 ?_
          refine lv_aload_n hx hb dX7_would_89 rfl (lv_at hl 0 rfl) ?_
          refine z_getr hX hH 0 0 1 rfl rfl flX7_would_14 dX7_would_90 ?_
          refine z_getr hX hH 1 1 3 rfl rfl flX7_would_71 dX7_would_93 ?_
          refine z_iconst hx hb dX7_would_96 ?_
          refine z_iald hX hH 3 5 rfl (by decide) (by decide) dX7_would_97 ?_
          refine z_isub hx hb dX7_would_98 ?_
          exact z_iret hX hr hlocks hH hF rfl dX7_would_99
        have hF := zi_f hF hc
        by_cases hc : a2 = (1:Int)
        · have hF := zi_t hF hc
          refine z_tableIn (tgt := 100) (v := 1) hx hb hc (by decide) dX7_would_45 (by decide +kernel) (by decide +kernel) rfl (by decide) ?_
          refine lv_aload_n hx hb dX7_would_100 rfl (lv_at hl 0 rfl) ?_
          refine z_getr hX hH 0 1 22 rfl rfl flX7_would_18 dX7_would_101 ?_
          refine z_getr hX hH 22 1 24 rfl rfl flX7_would_71 dX7_would_104 ?_
          refine z_iconst hx hb dX7_would_107 ?_
          refine z_iald hX hH 24 5 rfl (by decide) (by decide) dX7_would_108 ?_
          refine lv_aload_n hx hb dX7_would_109 rfl (lv_at hl 0 rfl) ?_
          refine z_getr hX hH 0 0 1 rfl rfl flX7_would_14 dX7_would_110 ?_
          refine z_getr hX hH 1 1 3 rfl rfl flX7_would_71 dX7_would_113 ?_
          refine z_iconst hx hb dX7_would_116 ?_
          refine z_iald hX hH 3 5 rfl (by decide) (by decide) dX7_would_117 ?_
          refine z_isub hx hb dX7_would_118 ?_
          exact z_iret hX hr hlocks hH hF rfl dX7_would_119
        have hF := zi_f hF hc
        by_cases hc : a2 = (2:Int)
        · have hF := zi_t hF hc
          refine z_tableIn (tgt := 120) (v := 2) hx hb hc (by decide) dX7_would_45 (by decide +kernel) (by decide +kernel) rfl (by decide) ?_
          refine lv_aload_n hx hb dX7_would_120 rfl (lv_at hl 0 rfl) ?_
          refine z_getr hX hH 0 1 22 rfl rfl flX7_would_18 dX7_would_121 ?_
          refine z_getr hX hH 22 1 24 rfl rfl flX7_would_71 dX7_would_124 ?_
          refine z_iconst hx hb dX7_would_127 ?_
          refine z_iald hX hH 24 5 rfl (by decide) (by decide) dX7_would_128 ?_
          refine lv_aload_n hx hb dX7_would_129 rfl (lv_at hl 0 rfl) ?_
          refine z_getr hX hH 0 0 1 rfl rfl flX7_would_14 dX7_would_130 ?_
          refine z_getr hX hH 1 1 3 rfl rfl flX7_would_71 dX7_would_133 ?_
          refine z_iconst hx hb dX7_would_136 ?_
          refine z_iald hX hH 3 5 rfl (by decide) (by decide) dX7_would_137 ?_
          refine z_isub hx hb dX7_would_138 ?_
          exact z_iret hX hr hlocks hH hF rfl dX7_would_139
        have hF := zi_f hF hc
        by_cases hc : a2 = (3:Int)
        · have hF := zi_t hF hc
          refine z_tableIn (tgt := 140) (v := 3) hx hb hc (by decide) dX7_would_45 (by decide +kernel) (by decide +kernel) rfl (by decide) ?_
          refine lv_aload_n hx hb dX7_would_140 rfl (lv_at hl 0 rfl) ?_
          refine z_getr hX hH 0 1 22 rfl rfl flX7_would_18 dX7_would_141 ?_
          refine z_getr hX hH 22 0 23 rfl rfl flX7_would_49 dX7_would_144 ?_
          refine z_iconst hx hb dX7_would_147 ?_
          refine z_iald hX hH 23 4 rfl (by decide) (by decide) dX7_would_148 ?_
          exact z_iret hX hr hlocks hH hF rfl dX7_would_149
        have hF := zi_f hF hc
        by_cases hc : a2 = (4:Int)
        · have hF := zi_t hF hc
          refine z_tableIn (tgt := 150) (v := 4) hx hb hc (by decide) dX7_would_45 (by decide +kernel) (by decide +kernel) rfl (by decide) ?_
          refine lv_aload_n hx hb dX7_would_150 rfl (lv_at hl 0 rfl) ?_
          refine z_getr hX hH 0 1 22 rfl rfl flX7_would_18 dX7_would_151 ?_
          obtain ⟨r17, M16, c15, hF⟩ := zc2_e hF
          obtain ⟨M18, eM18, hF⟩ := zl_e hF
          refine z_callVi (As := []) hX hH 22 3 (em_LX_is_22n21 κ) (ctX3_weightOfThings l D cs (zsb is_22n21 α) N (zpk is_22n21 M14)  r17 M16 c15) (cwV 0 hts gX7_would_X3_weightOfThings rfl rfl rfl (by decide +kernel) ⟨Nat.le_of_ble_eq_true rfl, Nat.le_of_ble_eq_true rfl⟩) rfl rfl rfl hl.1 (Nat.le_of_ble_eq_true rfl) rfl dX7_would_154 ⟨Nat.zero_le _, Nat.zero_le _⟩ (fun H locs hH => ?_)
          rw [← eM18] at hH
          exact z_iret hX hr hlocks hH hF rfl dX7_would_157
        have hF := zi_f hF hc
        cases hF
      · have hF := zi_f hF hc
        refine z_iconst hx hb dX7_would_17 ?_
        exact z_iret hX hr hlocks hH hF rfl dX7_would_18
theorem flX7_need_14 : zF RX7 wsX7_need 14 7 0 := ⟨_, TX7, _, rfl, by decide +kernel, by decide +kernel, by decide, rfl⟩
theorem flX7_need_49 : zF RX7 wsX7_need 49 3 0 := ⟨_, TX3, _, rfl, by decide +kernel, by decide +kernel, by decide, rfl⟩
theorem flX7_need_18 : zF RX7 wsX7_need 18 7 1 := ⟨_, TX7, _, rfl, by decide +kernel, by decide +kernel, by decide, rfl⟩
theorem flX7_need_30 : zF RX7 wsX7_need 30 7 4 := ⟨_, TX7, _, rfl, by decide +kernel, by decide +kernel, by decide, rfl⟩
set_option maxHeartbeats 4000000 in
set_option maxRecDepth 100000 in
theorem ctX7_need (l : Launch) (κ : Bool) (D : va_G) (cs : Nat → ClassId) (α : Nat → Nat) (N : Nat) (M : zM) (a1 : Int) (a2 : Int) (r : Int) (M' : zM) (hF : fX7_need N a1 a2 M = some (r, M')) : Met l yX7_need wsX7_need ({ frames := 6, cells := 0, slots := 0, locals := 144 }) (zPre D cs (LX κ) α M [.ref (α 0), .int (nZ a1), .int (nZ a2)]) (zQi D cs (LX κ) α r M') 0 0 (zA (LX κ).length α) := by
  refine z_met (cc := cX7_need) (maxL := 4) (ret := (some .int)) (by decide +kernel) rfl RX7 rfl (Nat.le_of_ble_eq_true rfl) ?_
  intro p e s m below meth c ls hX hr hlocks hH hl
  have hx := hX.1.1
  have hb := hX.1.2.1
  have hts := hX.1.2.2.2.2
  have L25 : ∀ (n : Nat) (x1 : Int) (x2 : Int) (x3 : Int) (M0 : zM), fX7_need_25 N n x1 x2 x3 M0 = some (r, M') → zGo p l e (headSpec wsX7_need ({ frames := 6, cells := 0, slots := 0, locals := 144 })).room s m ([.ref (α 0), .int (nZ a1), .int (nZ a2)] : List Value).toArray below meth c (MQ below (zQi D cs (LX κ) α r M') ([.ref (α 0), .int (nZ a1), .int (nZ a2)] : List Value).toArray s 0 0 (zA (LX κ).length α)) D cs (LX κ) α (zA (LX κ).length α) 4 25 [(0, .ref (α 0)), (1, .int (nZ x1)), (2, .int (nZ x2)), (3, .int (nZ x3))] [] M0 := by
    intro  n
    induction n with
    | zero =>
      intro x1 x2 x3 M0 hF
      have hF : (none : Option (Int × zM)) = some (r, M') := hF
      cases hF
    | succ n hk25 =>
      intro x1 x2 x3 M0 hF H locs ls hH hl
      have hF : sX7_need_25 N (fun x1 x2 x3 M0 => fX7_need_25 N n x1 x2 x3 M0) x1 x2 x3 M0 = some (r, M') := hF
      unfold sX7_need_25 at hF
      refine lv_iload_n hx hb dX7_need_25 rfl (lv_at hl 3 rfl) ?_
      refine z_bipush (v := 60) hx hb dX7_need_26 (by decide +kernel) ?_
      obtain ⟨h7, hF⟩ := zg_e hF
      refine z_icmp_gt (tgt := 74) hx hb h7 (by decide) dX7_need_28 (by decide) (fun hc => ?_) (fun hc => ?_)
      · have hF := zi_t hF hc
        refine z_bipush (v := -5) hx hb dX7_need_74 (by decide +kernel) ?_
        exact z_iret hX hr hlocks hH hF rfl dX7_need_76
      · have hF := zi_f hF hc
        refine lv_aload_n hx hb dX7_need_31 rfl (lv_at hl 0 rfl) ?_
        refine lv_iload_n hx hb dX7_need_32 rfl (lv_at hl 3 rfl) ?_
        refine lv_aload_n hx hb dX7_need_33 rfl (lv_at hl 0 rfl) ?_
        refine z_getr hX hH 0 0 1 rfl rfl flX7_need_14 dX7_need_34 ?_
        refine z_getr hX hH 1 0 2 rfl rfl flX7_need_49 dX7_need_37 ?_
        refine z_iconst hx hb dX7_need_40 ?_
        refine z_iald hX hH 2 4 rfl (by decide) (by decide) dX7_need_41 ?_
        refine lv_iload_n hx hb dX7_need_42 rfl (lv_at hl 3 rfl) ?_
        obtain ⟨h8, hF⟩ := zg_e hF
        refine z_min hX hl.1 (hts (.methodLink RX7 53 Lib.Math.min.name) (by decide +kernel)) (hts (.static Lib.Math.min.name) (by decide +kernel)) (hts (.initialized "java/lang/Math") (by decide +kernel)) (hts (.code Lib.Math.min.name Lib.Math.min.code 2 (some .int)) (by decide +kernel)) (Nat.le_of_ble_eq_true rfl) (Nat.le_of_ble_eq_true rfl) h8 h7 dX7_need_43 ?_
        obtain ⟨M10, c9, hF⟩ := zc_e hF
        refine z_sameVv (As := [.int (nZ x3), .int (nZ (zmin (M0 2 1) x3))]) hX hH 0 7 (ctX7_rehearse l κ D cs α N M0 x3 (zmin (M0 2 1) x3) M10 c9) (cwV 2 hts gX7_need_X7_rehearse rfl rfl rfl (by decide +kernel) ⟨Nat.le_of_ble_eq_true rfl, Nat.le_of_ble_eq_true rfl⟩) rfl rfl rfl hl.1 (Nat.le_of_ble_eq_true rfl) rfl dX7_need_46 ⟨Nat.zero_le _, Nat.zero_le _⟩ (fun H locs hH => ?_)
        refine lv_aload_n hx hb dX7_need_49 rfl (lv_at hl 0 rfl) ?_
        refine z_getr hX hH 0 1 22 rfl rfl flX7_need_18 dX7_need_50 ?_
        refine lv_aload_n hx hb dX7_need_53 rfl (lv_at hl 0 rfl) ?_
        refine z_getr hX hH 0 4 45 rfl rfl flX7_need_30 dX7_need_54 ?_
        refine lv_iload_n hx hb dX7_need_57 rfl (lv_at hl 1 rfl) ?_
        obtain ⟨h11, hF⟩ := zg_e hF
        have h12 : x1.toNat < 6 := by have := h11.1; have := h11.2; omega
        refine z_aald (ts := [46, 50, 54, 58, 62, 66]) hX hH 45 3 (46 + 4 * x1.toNat) rfl rfl rfl h11 (by decide) (ra_LX_46 x1.toNat h12) dX7_need_58 ?_
        obtain ⟨r15, M14, c13, hF⟩ := zc2_e hF
        obtain ⟨M16, eM16, hF⟩ := zl_e hF
        refine z_callVi (As := [.ref (α (46 + 4 * x1.toNat))]) hX hH 22 3 (em_LX_is_22n21_f46n4 κ x1.toNat h12) (ctX3_perform l D cs (zsb (is_22n21_f46n4 x1.toNat) α) N (zpk (is_22n21_f46n4 x1.toNat) M10)  r15 M14 c13) (cwV 1 hts gX7_need_X3_perform rfl rfl rfl (by decide +kernel) ⟨Nat.le_of_ble_eq_true rfl, Nat.le_of_ble_eq_true rfl⟩) rfl rfl rfl hl.1 (Nat.le_of_ble_eq_true rfl) rfl dX7_need_59 ⟨Nat.zero_le _, Nat.zero_le _⟩ (fun H locs hH => ?_)
        rw [← eM16] at hH
        refine lv_iload_n hx hb dX7_need_62 rfl (lv_at hl 2 rfl) ?_
        obtain ⟨h17, hF⟩ := zg_e hF
        obtain ⟨h18, hF⟩ := zg_e hF
        refine z_icmp_lt (tgt := 68) hx hb h17 h18 dX7_need_63 (by decide) (fun hc => ?_) (fun hc => ?_)
        · have hF := zi_t hF hc
          obtain ⟨v19, ev19, hF⟩ := zl_e hF
          refine z_iinc ev19 (lv' := [(3, .int (nZ v19)), (0, .ref (α 0)), (1, .int (nZ x1)), (2, .int (nZ x2))]) hx hb dX7_need_68 hl (k := 3) rfl (by decide) rfl (fun ls hl => ?_)
          refine lv_goto (tgt := 25) hx hb dX7_need_71 (by decide) ?_
          exact hk25 x1 x2 v19 M16 hF _ _ _ hH (lv_sub hl [1, 2, 3, 0] rfl)
        · have hF := zi_f hF hc
          refine lv_iload_n hx hb dX7_need_66 rfl (lv_at hl 3 rfl) ?_
          exact z_iret hX hr hlocks hH hF rfl dX7_need_67
  have hl : lv_has ls 4 [(0, .ref (α 0)), (1, .int (nZ a1)), (2, .int (nZ a2))] := hl
  unfold fX7_need at hF
  refine lv_aload_n hx hb dX7_need_0 rfl (lv_at hl 0 rfl) ?_
  refine lv_iload_n hx hb dX7_need_1 rfl (lv_at hl 1 rfl) ?_
  obtain ⟨r3, M2, c1, hF⟩ := zc2_e hF
  refine z_sameVi (As := [.int (nZ a1)]) hX hH 0 7 (ctX7_isTrace l κ D cs α N M a1 r3 M2 c1) (cwV 1 hts gX7_need_X7_isTrace rfl rfl rfl (by decide +kernel) ⟨Nat.le_of_ble_eq_true rfl, Nat.le_of_ble_eq_true rfl⟩) rfl rfl rfl hl.1 (Nat.le_of_ble_eq_true rfl) rfl dX7_need_2 ⟨Nat.zero_le _, Nat.zero_le _⟩ (fun H locs hH => ?_)
  obtain ⟨h4, hF⟩ := zg_e hF
  refine z_if_ne (tgt := 10) hx hb h4 dX7_need_5 (by decide) (fun hc => ?_) (fun hc => ?_)
  · have hF := zi_f hF hc
    refine lv_iload_n hx hb dX7_need_10 rfl (lv_at hl 2 rfl) ?_
    obtain ⟨h5, hF⟩ := zg_e hF
    refine z_if_lt (tgt := 20) hx hb h5 dX7_need_11 (by decide) (fun hc => ?_) (fun hc => ?_)
    · have hF := zi_t hF hc
      refine z_bipush (v := -2) hx hb dX7_need_20 (by decide +kernel) ?_
      exact z_iret hX hr hlocks hH hF rfl dX7_need_22
    · have hF := zi_f hF hc
      refine lv_iload_n hx hb dX7_need_14 rfl (lv_at hl 2 rfl) ?_
      refine z_bipush (v := 20) hx hb dX7_need_15 (by decide +kernel) ?_
      refine z_icmp_le (tgt := 23) hx hb h5 (by decide) dX7_need_17 (by decide) (fun hc => ?_) (fun hc => ?_)
      · have hF := zi_t hF hc
        refine z_iconst hx hb dX7_need_23 ?_
        obtain ⟨v6, ev6, hF⟩ := zl_e hF
        refine z_istore_n ev6 (lv' := [(3, .int (nZ v6)), (0, .ref (α 0)), (1, .int (nZ a1)), (2, .int (nZ a2))]) hx hb dX7_need_24 rfl hl (by decide) rfl (fun ls hl => ?_)
        exact L25 N a1 a2 v6 M2 hF _ _ _ hH (lv_sub hl [1, 2, 3, 0] rfl)
      · have hF := zi_f hF hc
        refine z_bipush (v := -2) hx hb dX7_need_20 (by decide +kernel) ?_
        exact z_iret hX hr hlocks hH hF rfl dX7_need_22
  · have hF := zi_t hF hc
    refine z_iconst hx hb dX7_need_8 ?_
    exact z_iret hX hr hlocks hH hF rfl dX7_need_9
set_option maxHeartbeats 4000000 in
set_option maxRecDepth 100000 in
theorem ctX7_isPart (l : Launch) (D : va_G) (cs : Nat → ClassId) (α : Nat → Nat) (N : Nat) (M : zM) (a1 : Int) (r : Int) (hF : fX7_isPart N a1 = some r) : Met l yX7_isPart wsX7_isPart ({ frames := 0, cells := 0, slots := 0, locals := 0 }) (zPre D cs LNo α M [.int (nZ a1)]) (zQi D cs LNo α r M) 0 0 (zA LNo.length α) := by
  refine z_met (cc := cX7_isPart) (maxL := 1) (ret := (some .boolean)) (by decide +kernel) rfl RX7 rfl (Nat.le_of_ble_eq_true rfl) ?_
  intro p e s m below meth c ls hX hr hlocks hH hl
  have hx := hX.1.1
  have hb := hX.1.2.1
  have hts := hX.1.2.2.2.2
  have J9 : sX7_isPart_9 N  = some r → zGo p l e (headSpec wsX7_isPart ({ frames := 0, cells := 0, slots := 0, locals := 0 })).room s m ([.int (nZ a1)] : List Value).toArray below meth c (MQ below (zQi D cs LNo α r M) ([.int (nZ a1)] : List Value).toArray s 0 0 (zA LNo.length α)) D cs LNo α (zA LNo.length α) 1 9 [] [] M := by
    intro  hF H locs ls hH hl
    unfold sX7_isPart_9 at hF
    refine z_iconst hx hb dX7_isPart_9 ?_
    refine lv_goto (tgt := 14) hx hb dX7_isPart_10 (by decide) ?_
    exact z_iretP hX hr hlocks hH hF rfl dX7_isPart_14
  have hl : lv_has ls 1 [(0, .int (nZ a1))] := hl
  unfold fX7_isPart at hF
  refine lv_iload_n hx hb dX7_isPart_0 rfl (lv_at hl 0 rfl) ?_
  obtain ⟨h1, hF⟩ := zg_e hF
  refine z_if_eq (tgt := 9) hx hb h1 dX7_isPart_1 (by decide) (fun hc => ?_) (fun hc => ?_)
  · have hF := zi_t hF hc
    exact J9  hF _ _ _ hH (lv_sub hl [] rfl)
  · have hF := zi_f hF hc
    refine lv_iload_n hx hb dX7_isPart_4 rfl (lv_at hl 0 rfl) ?_
    refine z_iconst hx hb dX7_isPart_5 ?_
    refine z_icmp_ne (tgt := 13) hx hb h1 (by decide) dX7_isPart_6 (by decide) (fun hc => ?_) (fun hc => ?_)
    · have hF := zi_f hF hc
      refine z_iconst hx hb dX7_isPart_13 ?_
      exact z_iretP hX hr hlocks hH hF rfl dX7_isPart_14
    · have hF := zi_t hF hc
      exact J9  hF _ _ _ hH (lv_sub hl [] rfl)
set_option maxHeartbeats 4000000 in
set_option maxRecDepth 100000 in
theorem ctX7_commonDivisor (l : Launch) (D : va_G) (cs : Nat → ClassId) (α : Nat → Nat) (N : Nat) (M : zM) (a1 : Int) (a2 : Int) (r : Int) (hF : fX7_commonDivisor N a1 a2 = some r) : Met l yX7_commonDivisor wsX7_commonDivisor ({ frames := 0, cells := 0, slots := 0, locals := 0 }) (zPre D cs LNo α M [.int (nZ a1), .int (nZ a2)]) (zQi D cs LNo α r M) 0 0 (zA LNo.length α) := by
  refine z_met (cc := cX7_commonDivisor) (maxL := 6) (ret := (some .int)) (by decide +kernel) rfl RX7 rfl (Nat.le_of_ble_eq_true rfl) ?_
  intro p e s m below meth c ls hX hr hlocks hH hl
  have hx := hX.1.1
  have hb := hX.1.2.1
  have hts := hX.1.2.2.2.2
  have J34 : ∀ (x2 : Int), sX7_commonDivisor_34 N x2 = some r → zGo p l e (headSpec wsX7_commonDivisor ({ frames := 0, cells := 0, slots := 0, locals := 0 })).room s m ([.int (nZ a1), .int (nZ a2)] : List Value).toArray below meth c (MQ below (zQi D cs LNo α r M) ([.int (nZ a1), .int (nZ a2)] : List Value).toArray s 0 0 (zA LNo.length α)) D cs LNo α (zA LNo.length α) 6 34 [(2, .int (nZ x2))] [] M := by
    intro x2 hF H locs ls hH hl
    unfold sX7_commonDivisor_34 at hF
    refine lv_iload_n hx hb dX7_commonDivisor_34 rfl (lv_at hl 0 rfl) ?_
    exact z_iretP hX hr hlocks hH hF rfl dX7_commonDivisor_35
  have L7 : ∀ (n : Nat) (x2 : Int) (x3 : Int) (x4 : Int), fX7_commonDivisor_7 N n x2 x3 x4 = some r → zGo p l e (headSpec wsX7_commonDivisor ({ frames := 0, cells := 0, slots := 0, locals := 0 })).room s m ([.int (nZ a1), .int (nZ a2)] : List Value).toArray below meth c (MQ below (zQi D cs LNo α r M) ([.int (nZ a1), .int (nZ a2)] : List Value).toArray s 0 0 (zA LNo.length α)) D cs LNo α (zA LNo.length α) 6 7 [(2, .int (nZ x2)), (3, .int (nZ x3)), (4, .int (nZ x4))] [] M := by
    intro  n
    induction n with
    | zero =>
      intro x2 x3 x4 hF
      have hF : (none : Option Int) = some r := hF
      cases hF
    | succ n hk7 =>
      intro x2 x3 x4 hF H locs ls hH hl
      have hF : sX7_commonDivisor_7 N (fun x2 x3 x4 => fX7_commonDivisor_7 N n x2 x3 x4) x2 x3 x4 = some r := hF
      unfold sX7_commonDivisor_7 at hF
      refine lv_iload hx hb dX7_commonDivisor_7 (lv_at hl 2 rfl) ?_
      refine z_ldc (v := 1000000) (n := 1000000) hx hb hX.1.2.2.2.1 (hts (.constant RX7 166 1000000) (by decide +kernel)) (by decide +kernel) dX7_commonDivisor_9 ?_
      obtain ⟨h4, hF⟩ := zg_e hF
      refine z_icmp_ge (tgt := 34) hx hb h4 (by decide) dX7_commonDivisor_11 (by decide) (fun hc => ?_) (fun hc => ?_)
      · have hF := zi_t hF hc
        exact J34 x2 hF _ _ _ hH (lv_sub hl [0] rfl)
      · have hF := zi_f hF hc
        refine lv_iload_n hx hb dX7_commonDivisor_14 rfl (lv_at hl 1 rfl) ?_
        obtain ⟨h5, hF⟩ := zg_e hF
        refine z_if_eq (tgt := 34) hx hb h5 dX7_commonDivisor_15 (by decide) (fun hc => ?_) (fun hc => ?_)
        · have hF := zi_t hF hc
          exact J34 x2 hF _ _ _ hH (lv_sub hl [0] rfl)
        · have hF := zi_f hF hc
          refine lv_iload_n hx hb dX7_commonDivisor_18 rfl (lv_at hl 0 rfl) ?_
          refine lv_iload_n hx hb dX7_commonDivisor_19 rfl (lv_at hl 1 rfl) ?_
          obtain ⟨h6, hF⟩ := zg_e hF
          refine z_irem hx hb h6.1 h6.2 dX7_commonDivisor_20 ?_
          obtain ⟨v7, ev7, hF⟩ := zl_e hF
          refine z_istore ev7 (lv' := [(5, .int (nZ v7)), (2, .int (nZ x2)), (3, .int (nZ x3)), (4, .int (nZ x4))]) hx hb dX7_commonDivisor_21 hl (by decide) rfl (fun ls hl => ?_)
          refine lv_iload_n hx hb dX7_commonDivisor_23 rfl (lv_at hl 2 rfl) ?_
          obtain ⟨v8, ev8, hF⟩ := zl_e hF
          refine z_istore_n ev8 (lv' := [(2, .int (nZ v8)), (5, .int (nZ v7)), (3, .int (nZ x3)), (4, .int (nZ x4))]) hx hb dX7_commonDivisor_24 rfl hl (by decide) rfl (fun ls hl => ?_)
          refine lv_iload hx hb dX7_commonDivisor_25 (lv_at hl 1 rfl) ?_
          obtain ⟨v9, ev9, hF⟩ := zl_e hF
          refine z_istore_n ev9 (lv' := [(3, .int (nZ v9)), (2, .int (nZ v8)), (5, .int (nZ v7)), (4, .int (nZ x4))]) hx hb dX7_commonDivisor_27 rfl hl (by decide) rfl (fun ls hl => ?_)
          obtain ⟨v10, ev10, hF⟩ := zl_e hF
          refine z_iinc ev10 (lv' := [(4, .int (nZ v10)), (3, .int (nZ v9)), (2, .int (nZ v8)), (5, .int (nZ v7))]) hx hb dX7_commonDivisor_28 hl (k := 3) rfl (by decide) rfl (fun ls hl => ?_)
          refine lv_goto (tgt := 7) hx hb dX7_commonDivisor_31 (by decide) ?_
          exact hk7 v8 v9 v10 hF _ _ _ hH (lv_sub hl [2, 1, 0] rfl)
  have hl : lv_has ls 6 [(0, .int (nZ a1)), (1, .int (nZ a2))] := hl
  unfold fX7_commonDivisor at hF
  refine lv_iload_n hx hb dX7_commonDivisor_0 rfl (lv_at hl 0 rfl) ?_
  obtain ⟨v1, ev1, hF⟩ := zl_e hF
  refine z_istore_n ev1 (lv' := [(2, .int (nZ v1)), (0, .int (nZ a1)), (1, .int (nZ a2))]) hx hb dX7_commonDivisor_1 rfl hl (by decide) rfl (fun ls hl => ?_)
  refine lv_iload_n hx hb dX7_commonDivisor_2 rfl (lv_at hl 2 rfl) ?_
  obtain ⟨v2, ev2, hF⟩ := zl_e hF
  refine z_istore_n ev2 (lv' := [(3, .int (nZ v2)), (2, .int (nZ v1)), (0, .int (nZ a1)), (1, .int (nZ a2))]) hx hb dX7_commonDivisor_3 rfl hl (by decide) rfl (fun ls hl => ?_)
  refine z_iconst hx hb dX7_commonDivisor_4 ?_
  obtain ⟨v3, ev3, hF⟩ := zl_e hF
  refine z_istore ev3 (lv' := [(4, .int (nZ v3)), (3, .int (nZ v2)), (2, .int (nZ v1)), (0, .int (nZ a1)), (1, .int (nZ a2))]) hx hb dX7_commonDivisor_5 hl (by decide) rfl (fun ls hl => ?_)
  exact L7 N v1 v2 v3 hF _ _ _ hH (lv_sub hl [2, 1, 0] rfl)
set_option maxHeartbeats 4000000 in
set_option maxRecDepth 100000 in
theorem ctX7_partOf (l : Launch) (D : va_G) (cs : Nat → ClassId) (α : Nat → Nat) (N : Nat) (M : zM) (a1 : Int) (a2 : Int) (a3 : Int) (r : Int) (hF : fX7_partOf N a1 a2 a3 = some r) : Met l yX7_partOf wsX7_partOf ({ frames := 1, cells := 0, slots := 0, locals := 25 }) (zPre D cs LNo α M [.int (nZ a1), .int (nZ a2), .int (nZ a3)]) (zQl D cs LNo α r M) 0 0 (zA LNo.length α) := by
  refine z_met (cc := cX7_partOf) (maxL := 4) (ret := (some .long)) (by decide +kernel) rfl RX7 rfl (Nat.le_of_ble_eq_true rfl) ?_
  intro p e s m below meth c ls hX hr hlocks hH hl
  have hx := hX.1.1
  have hb := hX.1.2.1
  have hts := hX.1.2.2.2.2
  have J27 : ∀ (x3 : Int) (y0 : Int), sX7_partOf_27 N x3 y0 = some r → zGo p l e (headSpec wsX7_partOf ({ frames := 1, cells := 0, slots := 0, locals := 25 })).room s m ([.int (nZ a1), .int (nZ a2), .int (nZ a3)] : List Value).toArray below meth c (MQ below (zQl D cs LNo α r M) ([.int (nZ a1), .int (nZ a2), .int (nZ a3)] : List Value).toArray s 0 0 (zA LNo.length α)) D cs LNo α (zA LNo.length α) 4 27 [(3, .int (nZ x3))] [.int (nZ y0)] M := by
    intro x3 y0 hF H locs ls hH hl
    unfold sX7_partOf_27 at hF
    refine lv_iload_n hx hb dX7_partOf_27 rfl (lv_at hl 0 rfl) ?_
    obtain ⟨h7, hF⟩ := zg_e hF
    refine z_idiv hx hb h7.1 h7.2 dX7_partOf_28 ?_
    obtain ⟨h8, hF⟩ := zg_e hF
    refine z_i2l hx hb h8 dX7_partOf_29 ?_
    exact z_lretP hX hr hlocks hH hF dX7_partOf_30
  have hl : lv_has ls 4 [(0, .int (nZ a1)), (1, .int (nZ a2)), (2, .int (nZ a3))] := hl
  unfold fX7_partOf at hF
  refine lv_iload_n hx hb dX7_partOf_0 rfl (lv_at hl 0 rfl) ?_
  refine lv_iload_n hx hb dX7_partOf_1 rfl (lv_at hl 1 rfl) ?_
  obtain ⟨r1, c2, hF⟩ := zc_e hF
  refine z_callSi (As := [.int (nZ a1), .int (nZ a2)]) (is := []) (Ll := []) hX hH rfl (ctX7_commonDivisor l D cs (zsb [] α) N (zpk [] M) a1 a2 r1 c2) (va_cwS 2 hts gX7_partOf_X7_commonDivisor rfl rfl rfl (by decide +kernel) ⟨Nat.le_of_ble_eq_true rfl, Nat.le_of_ble_eq_true rfl⟩) rfl hl.1 (Nat.le_of_ble_eq_true rfl) rfl dX7_partOf_2 ⟨Nat.zero_le _, Nat.zero_le _⟩ (fun H locs hH => ?_)
  have hH : zH D cs LNo α M (zA LNo.length α) s H locs := hH
  obtain ⟨v3, ev3, hF⟩ := zl_e hF
  refine z_istore_n ev3 (lv' := [(3, .int (nZ v3)), (0, .int (nZ a1)), (1, .int (nZ a2)), (2, .int (nZ a3))]) hx hb dX7_partOf_5 rfl hl (by decide) rfl (fun ls hl => ?_)
  refine lv_iload_n hx hb dX7_partOf_6 rfl (lv_at hl 2 rfl) ?_
  obtain ⟨h4, hF⟩ := zg_e hF
  refine z_if_eq (tgt := 14) hx hb h4 dX7_partOf_7 (by decide) (fun hc => ?_) (fun hc => ?_)
  · have hF := zi_t hF hc
    refine z_ldc2 (v := (-9223372036854775808:Int)) (n := -9223372036854775808) hx hb hX.1.2.2.2.1 (hts (.constantLong RX7 91 (-9223372036854775808)) (by decide +kernel)) (by decide +kernel) dX7_partOf_14 ?_
    exact z_lretP hX hr hlocks hH hF dX7_partOf_17
  · have hF := zi_f hF hc
    refine lv_iload_n hx hb dX7_partOf_10 rfl (lv_at hl 0 rfl) ?_
    obtain ⟨h5, hF⟩ := zg_e hF
    refine z_if_ne (tgt := 18) hx hb h5 dX7_partOf_11 (by decide) (fun hc => ?_) (fun hc => ?_)
    · have hF := zi_f hF hc
      refine lv_iload_n hx hb dX7_partOf_18 rfl (lv_at hl 3 rfl) ?_
      obtain ⟨h6, hF⟩ := zg_e hF
      refine z_if_ne (tgt := 26) hx hb h6 dX7_partOf_19 (by decide) (fun hc => ?_) (fun hc => ?_)
      · have hF := zi_f hF hc
        refine lv_iload_n hx hb dX7_partOf_26 rfl (lv_at hl 2 rfl) ?_
        exact J27 v3 a2 hF _ _ _ hH (lv_sub hl [0] rfl)
      · have hF := zi_t hF hc
        refine lv_iload_n hx hb dX7_partOf_22 rfl (lv_at hl 1 rfl) ?_
        refine lv_goto (tgt := 27) hx hb dX7_partOf_23 (by decide) ?_
        exact J27 v3 a1 hF _ _ _ hH (lv_sub hl [0] rfl)
    · have hF := zi_t hF hc
      refine z_ldc2 (v := (-9223372036854775808:Int)) (n := -9223372036854775808) hx hb hX.1.2.2.2.1 (hts (.constantLong RX7 91 (-9223372036854775808)) (by decide +kernel)) (by decide +kernel) dX7_partOf_14 ?_
      exact z_lretP hX hr hlocks hH hF dX7_partOf_17
theorem flX7_odds_14 : zF RX7 wsX7_odds 14 7 0 := ⟨_, TX7, _, rfl, by decide +kernel, by decide +kernel, by decide, rfl⟩
theorem flX7_odds_49 : zF RX7 wsX7_odds 49 3 0 := ⟨_, TX3, _, rfl, by decide +kernel, by decide +kernel, by decide, rfl⟩
theorem flX7_odds_18 : zF RX7 wsX7_odds 18 7 1 := ⟨_, TX7, _, rfl, by decide +kernel, by decide +kernel, by decide, rfl⟩
theorem flX7_odds_30 : zF RX7 wsX7_odds 30 7 4 := ⟨_, TX7, _, rfl, by decide +kernel, by decide +kernel, by decide, rfl⟩
set_option maxHeartbeats 4000000 in
set_option maxRecDepth 100000 in
theorem ctX7_odds (l : Launch) (κ : Bool) (D : va_G) (cs : Nat → ClassId) (α : Nat → Nat) (N : Nat) (M : zM) (a1 : Int) (a2 : Int) (a3 : Int) (r : Int) (M' : zM) (hF : fX7_odds N a1 a2 a3 M = some (r, M')) : Met l yX7_odds wsX7_odds ({ frames := 6, cells := 0, slots := 0, locals := 144 }) (zPre D cs (LX κ) α M [.ref (α 0), .int (nZ a1), .int (nZ a2), .int (nZ a3)]) (zQl D cs (LX κ) α r M') 0 0 (zA (LX κ).length α) := by
  refine z_met (cc := cX7_odds) (maxL := 7) (ret := (some .long)) (by decide +kernel) rfl RX7 rfl (Nat.le_of_ble_eq_true rfl) ?_
  intro p e s m below meth c ls hX hr hlocks hH hl
  have hx := hX.1.1
  have hb := hX.1.2.1
  have hts := hX.1.2.2.2.2
  have J81 : ∀ (k46 : Int → Int → Int → Int → Int → Int → zM → Option (Int × zM)) (hk46 : ∀ (x1 : Int) (x2 : Int) (x3 : Int) (x4 : Int) (x5 : Int) (x6 : Int) (M0 : zM), k46 x1 x2 x3 x4 x5 x6 M0 = some (r, M') → zGo p l e (headSpec wsX7_odds ({ frames := 6, cells := 0, slots := 0, locals := 144 })).room s m ([.ref (α 0), .int (nZ a1), .int (nZ a2), .int (nZ a3)] : List Value).toArray below meth c (MQ below (zQl D cs (LX κ) α r M') ([.ref (α 0), .int (nZ a1), .int (nZ a2), .int (nZ a3)] : List Value).toArray s 0 0 (zA (LX κ).length α)) D cs (LX κ) α (zA (LX κ).length α) 7 46 [(0, .ref (α 0)), (1, .int (nZ x1)), (2, .int (nZ x2)), (3, .int (nZ x3)), (4, .int (nZ x4)), (5, .int (nZ x5)), (6, .int (nZ x6))] [] M0) (x1 : Int) (x2 : Int) (x3 : Int) (x4 : Int) (x5 : Int) (x6 : Int) (M0 : zM), sX7_odds_81 N k46 x1 x2 x3 x4 x5 x6 M0 = some (r, M') → zGo p l e (headSpec wsX7_odds ({ frames := 6, cells := 0, slots := 0, locals := 144 })).room s m ([.ref (α 0), .int (nZ a1), .int (nZ a2), .int (nZ a3)] : List Value).toArray below meth c (MQ below (zQl D cs (LX κ) α r M') ([.ref (α 0), .int (nZ a1), .int (nZ a2), .int (nZ a3)] : List Value).toArray s 0 0 (zA (LX κ).length α)) D cs (LX κ) α (zA (LX κ).length α) 7 81 [(0, .ref (α 0)), (1, .int (nZ x1)), (2, .int (nZ x2)), (3, .int (nZ x3)), (4, .int (nZ x4)), (5, .int (nZ x5)), (6, .int (nZ x6))] [] M0 := by
    intro k46 hk46 x1 x2 x3 x4 x5 x6 M0 hF H locs ls hH hl
    unfold sX7_odds_81 at hF
    obtain ⟨v26, ev26, hF⟩ := zl_e hF
    refine z_iinc ev26 (lv' := [(6, .int (nZ v26)), (0, .ref (α 0)), (1, .int (nZ x1)), (2, .int (nZ x2)), (3, .int (nZ x3)), (4, .int (nZ x4)), (5, .int (nZ x5))]) hx hb dX7_odds_81 hl (k := 6) rfl (by decide) rfl (fun ls hl => ?_)
    refine lv_goto (tgt := 46) hx hb dX7_odds_84 (by decide) ?_
    exact hk46 x1 x2 x3 x4 x5 v26 M0 hF _ _ _ hH (lv_sub hl [1, 2, 3, 4, 5, 6, 0] rfl)
  have L46 : ∀ (n : Nat) (x1 : Int) (x2 : Int) (x3 : Int) (x4 : Int) (x5 : Int) (x6 : Int) (M0 : zM), fX7_odds_46 N n x1 x2 x3 x4 x5 x6 M0 = some (r, M') → zGo p l e (headSpec wsX7_odds ({ frames := 6, cells := 0, slots := 0, locals := 144 })).room s m ([.ref (α 0), .int (nZ a1), .int (nZ a2), .int (nZ a3)] : List Value).toArray below meth c (MQ below (zQl D cs (LX κ) α r M') ([.ref (α 0), .int (nZ a1), .int (nZ a2), .int (nZ a3)] : List Value).toArray s 0 0 (zA (LX κ).length α)) D cs (LX κ) α (zA (LX κ).length α) 7 46 [(0, .ref (α 0)), (1, .int (nZ x1)), (2, .int (nZ x2)), (3, .int (nZ x3)), (4, .int (nZ x4)), (5, .int (nZ x5)), (6, .int (nZ x6))] [] M0 := by
    intro  n
    induction n with
    | zero =>
      intro x1 x2 x3 x4 x5 x6 M0 hF
      have hF : (none : Option (Int × zM)) = some (r, M') := hF
      cases hF
    | succ n hk46 =>
      intro x1 x2 x3 x4 x5 x6 M0 hF H locs ls hH hl
      have hF : sX7_odds_46 N (fun x1 x2 x3 x4 x5 x6 M0 => fX7_odds_46 N n x1 x2 x3 x4 x5 x6 M0) x1 x2 x3 x4 x5 x6 M0 = some (r, M') := hF
      unfold sX7_odds_46 at hF
      refine lv_iload hx hb dX7_odds_46 (lv_at hl 6 rfl) ?_
      refine lv_iload hx hb dX7_odds_48 (lv_at hl 4 rfl) ?_
      obtain ⟨h12, hF⟩ := zg_e hF
      obtain ⟨h13, hF⟩ := zg_e hF
      refine z_icmp_gt (tgt := 87) hx hb h12 h13 dX7_odds_50 (by decide) (fun hc => ?_) (fun hc => ?_)
      · have hF := zi_t hF hc
        refine lv_iload hx hb dX7_odds_87 (lv_at hl 5 rfl) ?_
        refine lv_iload hx hb dX7_odds_89 (lv_at hl 4 rfl) ?_
        refine z_iconst hx hb dX7_odds_91 ?_
        refine z_iadd hx hb dX7_odds_92 ?_
        refine lv_iload_n hx hb dX7_odds_93 rfl (lv_at hl 3 rfl) ?_
        obtain ⟨r14, c15, hF⟩ := zc_e hF
        refine z_callSl (As := [.int (nZ x5), .int (nZ (x4 + (1:Int))), .int (nZ x3)]) (is := []) (Ll := []) hX hH rfl (ctX7_partOf l D cs (zsb [] α) N (zpk [] M0) x5 (x4 + (1:Int)) x3 r14 c15) (va_cwS 3 hts gX7_odds_X7_partOf rfl rfl rfl (by decide +kernel) ⟨Nat.le_of_ble_eq_true rfl, Nat.le_of_ble_eq_true rfl⟩) rfl hl.1 (Nat.le_of_ble_eq_true rfl) rfl dX7_odds_94 ⟨Nat.zero_le _, Nat.zero_le _⟩ (fun H locs hH => ?_)
        have hH : zH D cs (LX κ) α M0 (zA (LX κ).length α) s H locs := hH
        exact z_lret hX hr hlocks hH hF dX7_odds_97
      · have hF := zi_f hF hc
        refine lv_aload_n hx hb dX7_odds_53 rfl (lv_at hl 0 rfl) ?_
        refine lv_iload hx hb dX7_odds_54 (lv_at hl 4 rfl) ?_
        refine lv_iload hx hb dX7_odds_56 (lv_at hl 6 rfl) ?_
        obtain ⟨M17, c16, hF⟩ := zc_e hF
        refine z_sameVv (As := [.int (nZ x4), .int (nZ x6)]) hX hH 0 7 (ctX7_rehearse l κ D cs α N M0 x4 x6 M17 c16) (cwV 2 hts gX7_odds_X7_rehearse rfl rfl rfl (by decide +kernel) ⟨Nat.le_of_ble_eq_true rfl, Nat.le_of_ble_eq_true rfl⟩) rfl rfl rfl hl.1 (Nat.le_of_ble_eq_true rfl) rfl dX7_odds_58 ⟨Nat.zero_le _, Nat.zero_le _⟩ (fun H locs hH => ?_)
        refine lv_aload_n hx hb dX7_odds_61 rfl (lv_at hl 0 rfl) ?_
        refine z_getr hX hH 0 1 22 rfl rfl flX7_odds_18 dX7_odds_62 ?_
        refine lv_aload_n hx hb dX7_odds_65 rfl (lv_at hl 0 rfl) ?_
        refine z_getr hX hH 0 4 45 rfl rfl flX7_odds_30 dX7_odds_66 ?_
        refine lv_iload_n hx hb dX7_odds_69 rfl (lv_at hl 1 rfl) ?_
        obtain ⟨h18, hF⟩ := zg_e hF
        have h19 : x1.toNat < 6 := by have := h18.1; have := h18.2; omega
        refine z_aald (ts := [46, 50, 54, 58, 62, 66]) hX hH 45 3 (46 + 4 * x1.toNat) rfl rfl rfl h18 (by decide) (ra_LX_46 x1.toNat h19) dX7_odds_70 ?_
        obtain ⟨r22, M21, c20, hF⟩ := zc2_e hF
        obtain ⟨M23, eM23, hF⟩ := zl_e hF
        refine z_callVi (As := [.ref (α (46 + 4 * x1.toNat))]) hX hH 22 3 (em_LX_is_22n21_f46n4 κ x1.toNat h19) (ctX3_perform l D cs (zsb (is_22n21_f46n4 x1.toNat) α) N (zpk (is_22n21_f46n4 x1.toNat) M17)  r22 M21 c20) (cwV 1 hts gX7_odds_X3_perform rfl rfl rfl (by decide +kernel) ⟨Nat.le_of_ble_eq_true rfl, Nat.le_of_ble_eq_true rfl⟩) rfl rfl rfl hl.1 (Nat.le_of_ble_eq_true rfl) rfl dX7_odds_71 ⟨Nat.zero_le _, Nat.zero_le _⟩ (fun H locs hH => ?_)
        rw [← eM23] at hH
        refine lv_iload_n hx hb dX7_odds_74 rfl (lv_at hl 2 rfl) ?_
        obtain ⟨h24, hF⟩ := zg_e hF
        obtain ⟨h25, hF⟩ := zg_e hF
        refine z_icmp_lt (tgt := 81) hx hb h24 h25 dX7_odds_75 (by decide) (fun hc => ?_) (fun hc => ?_)
        · have hF := zi_t hF hc
          exact J81 (fun x1 x2 x3 x4 x5 x6 M0 => fX7_odds_46 N n x1 x2 x3 x4 x5 x6 M0) hk46 x1 x2 x3 x4 x5 x6 M23 hF _ _ _ hH (lv_sub hl [0, 1, 2, 3, 4, 5, 6] rfl)
        · have hF := zi_f hF hc
          obtain ⟨v27, ev27, hF⟩ := zl_e hF
          refine z_iinc ev27 (lv' := [(5, .int (nZ v27)), (0, .ref (α 0)), (1, .int (nZ x1)), (2, .int (nZ x2)), (3, .int (nZ x3)), (4, .int (nZ x4)), (6, .int (nZ x6))]) hx hb dX7_odds_78 hl (k := 5) rfl (by decide) rfl (fun ls hl => ?_)
          exact J81 (fun x1 x2 x3 x4 x5 x6 M0 => fX7_odds_46 N n x1 x2 x3 x4 x5 x6 M0) hk46 x1 x2 x3 x4 v27 x6 M23 hF _ _ _ hH (lv_sub hl [1, 2, 3, 4, 5, 0, 6] rfl)
  have hl : lv_has ls 7 [(0, .ref (α 0)), (1, .int (nZ a1)), (2, .int (nZ a2)), (3, .int (nZ a3))] := hl
  unfold fX7_odds at hF
  refine lv_aload_n hx hb dX7_odds_0 rfl (lv_at hl 0 rfl) ?_
  refine lv_iload_n hx hb dX7_odds_1 rfl (lv_at hl 1 rfl) ?_
  obtain ⟨r3, M2, c1, hF⟩ := zc2_e hF
  refine z_sameVi (As := [.int (nZ a1)]) hX hH 0 7 (ctX7_isTrace l κ D cs α N M a1 r3 M2 c1) (cwV 1 hts gX7_odds_X7_isTrace rfl rfl rfl (by decide +kernel) ⟨Nat.le_of_ble_eq_true rfl, Nat.le_of_ble_eq_true rfl⟩) rfl rfl rfl hl.1 (Nat.le_of_ble_eq_true rfl) rfl dX7_odds_2 ⟨Nat.zero_le _, Nat.zero_le _⟩ (fun H locs hH => ?_)
  obtain ⟨h4, hF⟩ := zg_e hF
  refine z_if_eq (tgt := 25) hx hb h4 dX7_odds_5 (by decide) (fun hc => ?_) (fun hc => ?_)
  · have hF := zi_t hF hc
    refine z_ldc2 (v := (-9223372036854775808:Int)) (n := -9223372036854775808) hx hb hX.1.2.2.2.1 (hts (.constantLong RX7 91 (-9223372036854775808)) (by decide +kernel)) (by decide +kernel) dX7_odds_25 ?_
    exact z_lret hX hr hlocks hH hF dX7_odds_28
  · have hF := zi_f hF hc
    refine lv_iload_n hx hb dX7_odds_8 rfl (lv_at hl 2 rfl) ?_
    obtain ⟨h5, hF⟩ := zg_e hF
    refine z_if_lt (tgt := 25) hx hb h5 dX7_odds_9 (by decide) (fun hc => ?_) (fun hc => ?_)
    · have hF := zi_t hF hc
      refine z_ldc2 (v := (-9223372036854775808:Int)) (n := -9223372036854775808) hx hb hX.1.2.2.2.1 (hts (.constantLong RX7 91 (-9223372036854775808)) (by decide +kernel)) (by decide +kernel) dX7_odds_25 ?_
      exact z_lret hX hr hlocks hH hF dX7_odds_28
    · have hF := zi_f hF hc
      refine lv_iload_n hx hb dX7_odds_12 rfl (lv_at hl 2 rfl) ?_
      refine z_bipush (v := 20) hx hb dX7_odds_13 (by decide +kernel) ?_
      refine z_icmp_gt (tgt := 25) hx hb h5 (by decide) dX7_odds_15 (by decide) (fun hc => ?_) (fun hc => ?_)
      · have hF := zi_t hF hc
        refine z_ldc2 (v := (-9223372036854775808:Int)) (n := -9223372036854775808) hx hb hX.1.2.2.2.1 (hts (.constantLong RX7 91 (-9223372036854775808)) (by decide +kernel)) (by decide +kernel) dX7_odds_25 ?_
        exact z_lret hX hr hlocks hH hF dX7_odds_28
      · have hF := zi_f hF hc
        refine lv_iload_n hx hb dX7_odds_18 rfl (lv_at hl 3 rfl) ?_
        obtain ⟨r6, c7, hF⟩ := zc_e hF
        refine z_callSi (As := [.int (nZ a3)]) (is := []) (Ll := []) hX hH rfl (ctX7_isPart l D cs (zsb [] α) N (zpk [] M2) a3 r6 c7) (va_cwS 1 hts gX7_odds_X7_isPart rfl rfl rfl (by decide +kernel) ⟨Nat.le_of_ble_eq_true rfl, Nat.le_of_ble_eq_true rfl⟩) rfl hl.1 (Nat.le_of_ble_eq_true rfl) rfl dX7_odds_19 ⟨Nat.zero_le _, Nat.zero_le _⟩ (fun H locs hH => ?_)
        have hH : zH D cs (LX κ) α M2 (zA (LX κ).length α) s H locs := hH
        obtain ⟨h8, hF⟩ := zg_e hF
        refine z_if_ne (tgt := 29) hx hb h8 dX7_odds_22 (by decide) (fun hc => ?_) (fun hc => ?_)
        · have hF := zi_f hF hc
          refine lv_aload_n hx hb dX7_odds_29 rfl (lv_at hl 0 rfl) ?_
          refine z_getr hX hH 0 0 1 rfl rfl flX7_odds_14 dX7_odds_30 ?_
          refine z_getr hX hH 1 0 2 rfl rfl flX7_odds_49 dX7_odds_33 ?_
          refine z_iconst hx hb dX7_odds_36 ?_
          refine z_iald hX hH 2 4 rfl (by decide) (by decide) dX7_odds_37 ?_
          obtain ⟨v9, ev9, hF⟩ := zl_e hF
          refine z_istore ev9 (lv' := [(4, .int (nZ v9)), (0, .ref (α 0)), (1, .int (nZ a1)), (2, .int (nZ a2)), (3, .int (nZ a3))]) hx hb dX7_odds_38 hl (by decide) rfl (fun ls hl => ?_)
          refine z_iconst hx hb dX7_odds_40 ?_
          obtain ⟨v10, ev10, hF⟩ := zl_e hF
          refine z_istore ev10 (lv' := [(5, .int (nZ v10)), (4, .int (nZ v9)), (0, .ref (α 0)), (1, .int (nZ a1)), (2, .int (nZ a2)), (3, .int (nZ a3))]) hx hb dX7_odds_41 hl (by decide) rfl (fun ls hl => ?_)
          refine z_iconst hx hb dX7_odds_43 ?_
          obtain ⟨v11, ev11, hF⟩ := zl_e hF
          refine z_istore ev11 (lv' := [(6, .int (nZ v11)), (5, .int (nZ v10)), (4, .int (nZ v9)), (0, .ref (α 0)), (1, .int (nZ a1)), (2, .int (nZ a2)), (3, .int (nZ a3))]) hx hb dX7_odds_44 hl (by decide) rfl (fun ls hl => ?_)
          exact L46 N a1 a2 a3 v9 v10 v11 M2 hF _ _ _ hH (lv_sub hl [3, 4, 5, 6, 2, 1, 0] rfl)
        · have hF := zi_t hF hc
          refine z_ldc2 (v := (-9223372036854775808:Int)) (n := -9223372036854775808) hx hb hX.1.2.2.2.1 (hts (.constantLong RX7 91 (-9223372036854775808)) (by decide +kernel)) (by decide +kernel) dX7_odds_25 ?_
          exact z_lret hX hr hlocks hH hF dX7_odds_28
theorem flX7_mean_14 : zF RX7 wsX7_mean 14 7 0 := ⟨_, TX7, _, rfl, by decide +kernel, by decide +kernel, by decide, rfl⟩
theorem flX7_mean_62 : zF RX7 wsX7_mean 62 3 2 := ⟨_, TX3, _, rfl, by decide +kernel, by decide +kernel, by decide, rfl⟩
theorem flX7_mean_154 : zF RX7 wsX7_mean 154 2 0 := ⟨_, TX2, _, rfl, by decide +kernel, by decide +kernel, by decide, rfl⟩
theorem flX7_mean_97 : zF RX7 wsX7_mean 97 3 3 := ⟨_, TX3, _, rfl, by decide +kernel, by decide +kernel, by decide, rfl⟩
theorem flX7_mean_160 : zF RX7 wsX7_mean 160 2 2 := ⟨_, TX2, _, rfl, by decide +kernel, by decide +kernel, by decide, rfl⟩
set_option maxHeartbeats 4000000 in
set_option maxRecDepth 100000 in
theorem ctX7_mean (l : Launch) (κ : Bool) (D : va_G) (cs : Nat → ClassId) (α : Nat → Nat) (N : Nat) (M : zM) (a1 : Int) (a2 : Int) (r : Int) (M' : zM) (hF : fX7_mean N a1 a2 M = some (r, M')) : Met l yX7_mean wsX7_mean ({ frames := 2, cells := 0, slots := 0, locals := 48 }) (zPre D cs (LX κ) α M [.ref (α 0), .int (nZ a1), .int (nZ a2)]) (zQl D cs (LX κ) α r M') 0 0 (zA (LX κ).length α) := by
  refine z_met (cc := cX7_mean) (maxL := 7) (ret := (some .long)) (by decide +kernel) rfl RX7 rfl (Nat.le_of_ble_eq_true rfl) ?_
  intro p e s m below meth c ls hX hr hlocks hH hl
  have hx := hX.1.1
  have hb := hX.1.2.1
  have hts := hX.1.2.2.2.2
  have L53 : ∀ (n : Nat) (x2 : Int) (x3 : Int) (x4 : Int) (x5 : Int) (x6 : Int) (M0 : zM), fX7_mean_53 N n x2 x3 x4 x5 x6 M0 = some (r, M') → zGo p l e (headSpec wsX7_mean ({ frames := 2, cells := 0, slots := 0, locals := 48 })).room s m ([.ref (α 0), .int (nZ a1), .int (nZ a2)] : List Value).toArray below meth c (MQ below (zQl D cs (LX κ) α r M') ([.ref (α 0), .int (nZ a1), .int (nZ a2)] : List Value).toArray s 0 0 (zA (LX κ).length α)) D cs (LX κ) α (zA (LX κ).length α) 7 53 [(0, .ref (α 0)), (2, .int (nZ x2)), (3, .int (nZ x3)), (4, .int (nZ x4)), (5, .int (nZ x5)), (6, .int (nZ x6))] [] M0 := by
    intro  n
    induction n with
    | zero =>
      intro x2 x3 x4 x5 x6 M0 hF
      have hF : (none : Option (Int × zM)) = some (r, M') := hF
      cases hF
    | succ n hk53 =>
      intro x2 x3 x4 x5 x6 M0 hF H locs ls hH hl
      have hF : sX7_mean_53 N (fun x2 x3 x4 x5 x6 M0 => fX7_mean_53 N n x2 x3 x4 x5 x6 M0) x2 x3 x4 x5 x6 M0 = some (r, M') := hF
      unfold sX7_mean_53 at hF
      refine lv_iload hx hb dX7_mean_53 (lv_at hl 5 rfl) ?_
      refine lv_iload_n hx hb dX7_mean_55 rfl (lv_at hl 2 rfl) ?_
      obtain ⟨h14, hF⟩ := zg_e hF
      obtain ⟨h15, hF⟩ := zg_e hF
      refine z_icmp_ge (tgt := 97) hx hb h14 h15 dX7_mean_56 (by decide) (fun hc => ?_) (fun hc => ?_)
      · have hF := zi_t hF hc
        refine lv_iload hx hb dX7_mean_97 (lv_at hl 3 rfl) ?_
        refine lv_iload_n hx hb dX7_mean_99 rfl (lv_at hl 2 rfl) ?_
        refine lv_iload_n hx hb dX7_mean_100 rfl (lv_at hl 1 rfl) ?_
        obtain ⟨r16, c17, hF⟩ := zc_e hF
        refine z_callSl (As := [.int (nZ x4), .int (nZ x3), .int (nZ x2)]) (is := []) (Ll := []) hX hH rfl (ctX7_partOf l D cs (zsb [] α) N (zpk [] M0) x4 x3 x2 r16 c17) (va_cwS 3 hts gX7_mean_X7_partOf rfl rfl rfl (by decide +kernel) ⟨Nat.le_of_ble_eq_true rfl, Nat.le_of_ble_eq_true rfl⟩) rfl hl.1 (Nat.le_of_ble_eq_true rfl) rfl dX7_mean_101 ⟨Nat.zero_le _, Nat.zero_le _⟩ (fun H locs hH => ?_)
        have hH : zH D cs (LX κ) α M0 (zA (LX κ).length α) s H locs := hH
        exact z_lret hX hr hlocks hH hF dX7_mean_104
      · have hF := zi_f hF hc
        refine lv_iload hx hb dX7_mean_59 (lv_at hl 3 rfl) ?_
        refine lv_aload_n hx hb dX7_mean_61 rfl (lv_at hl 0 rfl) ?_
        refine z_getr hX hH 0 0 1 rfl rfl flX7_mean_14 dX7_mean_62 ?_
        refine z_getr hX hH 1 3 9 rfl rfl flX7_mean_97 dX7_mean_65 ?_
        refine z_iconst hx hb dX7_mean_68 ?_
        refine z_aald hX hH 9 4 12 rfl rfl rfl (by decide) (by decide) rfl dX7_mean_69 ?_
        refine lv_iload hx hb dX7_mean_70 (lv_at hl 4 rfl) ?_
        obtain ⟨h18, hF⟩ := zg_e hF
        refine z_iald hX hH 12 400 rfl h18 (by decide) dX7_mean_72 ?_
        refine z_iadd hx hb dX7_mean_73 ?_
        obtain ⟨v19, ev19, hF⟩ := zl_e hF
        refine z_istore ev19 (lv' := [(4, .int (nZ v19)), (0, .ref (α 0)), (2, .int (nZ x2)), (3, .int (nZ x3)), (5, .int (nZ x5)), (6, .int (nZ x6))]) hx hb dX7_mean_74 hl (by decide) rfl (fun ls hl => ?_)
        refine lv_aload_n hx hb dX7_mean_76 rfl (lv_at hl 1 rfl) ?_
        refine z_getr hX hH 0 0 1 rfl rfl flX7_mean_14 dX7_mean_77 ?_
        refine z_getr hX hH 1 2 4 rfl rfl flX7_mean_62 dX7_mean_80 ?_
        refine z_getr hX hH 4 2 7 rfl rfl flX7_mean_160 dX7_mean_83 ?_
        refine lv_iload hx hb dX7_mean_86 (lv_at hl 4 rfl) ?_
        obtain ⟨h20, hF⟩ := zg_e hF
        refine z_iald hX hH 7 405 rfl h20 (by decide) dX7_mean_88 ?_
        obtain ⟨v21, ev21, hF⟩ := zl_e hF
        refine z_istore ev21 (lv' := [(5, .int (nZ v21)), (4, .int (nZ v19)), (0, .ref (α 0)), (2, .int (nZ x2)), (3, .int (nZ x3)), (6, .int (nZ x6))]) hx hb dX7_mean_89 hl (by decide) rfl (fun ls hl => ?_)
        obtain ⟨v22, ev22, hF⟩ := zl_e hF
        refine z_iinc ev22 (lv' := [(6, .int (nZ v22)), (5, .int (nZ v21)), (4, .int (nZ v19)), (0, .ref (α 0)), (2, .int (nZ x2)), (3, .int (nZ x3))]) hx hb dX7_mean_91 hl (k := 5) rfl (by decide) rfl (fun ls hl => ?_)
        refine lv_goto (tgt := 53) hx hb dX7_mean_94 (by decide) ?_
        exact hk53 x2 x3 v19 v21 v22 M0 hF _ _ _ hH (lv_sub hl [3, 4, 5, 2, 1, 0] rfl)
  have J10 : ∀ (x1 : Int) (x2 : Int) (M0 : zM), sX7_mean_10 N x1 x2 M0 = some (r, M') → zGo p l e (headSpec wsX7_mean ({ frames := 2, cells := 0, slots := 0, locals := 48 })).room s m ([.ref (α 0), .int (nZ a1), .int (nZ a2)] : List Value).toArray below meth c (MQ below (zQl D cs (LX κ) α r M') ([.ref (α 0), .int (nZ a1), .int (nZ a2)] : List Value).toArray s 0 0 (zA (LX κ).length α)) D cs (LX κ) α (zA (LX κ).length α) 7 10 [(0, .ref (α 0)), (1, .int (nZ x1)), (2, .int (nZ x2))] [] M0 := by
    intro x1 x2 M0 hF H locs ls hH hl
    unfold sX7_mean_10 at hF
    refine lv_iload_n hx hb dX7_mean_10 rfl (lv_at hl 2 rfl) ?_
    obtain ⟨r2, c3, hF⟩ := zc_e hF
    refine z_callSi (As := [.int (nZ x2)]) (is := []) (Ll := []) hX hH rfl (ctX7_isPart l D cs (zsb [] α) N (zpk [] M0) x2 r2 c3) (va_cwS 1 hts gX7_mean_X7_isPart rfl rfl rfl (by decide +kernel) ⟨Nat.le_of_ble_eq_true rfl, Nat.le_of_ble_eq_true rfl⟩) rfl hl.1 (Nat.le_of_ble_eq_true rfl) rfl dX7_mean_11 ⟨Nat.zero_le _, Nat.zero_le _⟩ (fun H locs hH => ?_)
    have hH : zH D cs (LX κ) α M0 (zA (LX κ).length α) s H locs := hH
    obtain ⟨h4, hF⟩ := zg_e hF
    refine z_if_ne (tgt := 21) hx hb h4 dX7_mean_14 (by decide) (fun hc => ?_) (fun hc => ?_)
    · have hF := zi_f hF hc
      refine lv_aload_n hx hb dX7_mean_21 rfl (lv_at hl 0 rfl) ?_
      refine z_getr hX hH 0 0 1 rfl rfl flX7_mean_14 dX7_mean_22 ?_
      refine z_getr hX hH 1 2 4 rfl rfl flX7_mean_62 dX7_mean_25 ?_
      refine z_getr hX hH 4 0 5 rfl rfl flX7_mean_154 dX7_mean_28 ?_
      refine lv_iload_n hx hb dX7_mean_31 rfl (lv_at hl 1 rfl) ?_
      obtain ⟨h5, hF⟩ := zg_e hF
      refine z_iald hX hH 5 5 rfl h5 (by decide) dX7_mean_32 ?_
      obtain ⟨v6, ev6, hF⟩ := zl_e hF
      refine z_istore_n ev6 (lv' := [(3, .int (nZ v6)), (0, .ref (α 0)), (1, .int (nZ x1)), (2, .int (nZ x2))]) hx hb dX7_mean_33 rfl hl (by decide) rfl (fun ls hl => ?_)
      refine z_iconst hx hb dX7_mean_34 ?_
      obtain ⟨v7, ev7, hF⟩ := zl_e hF
      refine z_istore ev7 (lv' := [(4, .int (nZ v7)), (3, .int (nZ v6)), (0, .ref (α 0)), (1, .int (nZ x1)), (2, .int (nZ x2))]) hx hb dX7_mean_35 hl (by decide) rfl (fun ls hl => ?_)
      refine lv_aload_n hx hb dX7_mean_37 rfl (lv_at hl 2 rfl) ?_
      refine z_getr hX hH 0 0 1 rfl rfl flX7_mean_14 dX7_mean_38 ?_
      refine z_getr hX hH 1 2 4 rfl rfl flX7_mean_62 dX7_mean_41 ?_
      refine lv_iload_n hx hb dX7_mean_44 rfl (lv_at hl 3 rfl) ?_
      obtain ⟨r10, M9, c8, hF⟩ := zc2_e hF
      obtain ⟨M11, eM11, hF⟩ := zl_e hF
      refine z_callVi (As := [.int (nZ x1)]) hX hH 4 2 (em_LX_is_4n5 κ) (ctX2_oldest l D cs (zsb is_4n5 α) N (zpk is_4n5 M0) x1 r10 M9 c8) (cwV 1 hts gX7_mean_X2_oldest rfl rfl rfl (by decide +kernel) ⟨Nat.le_of_ble_eq_true rfl, Nat.le_of_ble_eq_true rfl⟩) rfl rfl rfl hl.1 (Nat.le_of_ble_eq_true rfl) rfl dX7_mean_45 ⟨Nat.zero_le _, Nat.zero_le _⟩ (fun H locs hH => ?_)
      rw [← eM11] at hH
      obtain ⟨v12, ev12, hF⟩ := zl_e hF
      refine z_istore ev12 (lv' := [(5, .int (nZ v12)), (4, .int (nZ v7)), (3, .int (nZ v6)), (0, .ref (α 0)), (1, .int (nZ x1)), (2, .int (nZ x2))]) hx hb dX7_mean_48 hl (by decide) rfl (fun ls hl => ?_)
      refine z_iconst hx hb dX7_mean_50 ?_
      obtain ⟨v13, ev13, hF⟩ := zl_e hF
      refine z_istore ev13 (lv' := [(6, .int (nZ v13)), (5, .int (nZ v12)), (4, .int (nZ v7)), (3, .int (nZ v6)), (0, .ref (α 0)), (1, .int (nZ x1)), (2, .int (nZ x2))]) hx hb dX7_mean_51 hl (by decide) rfl (fun ls hl => ?_)
      exact L53 N x2 v6 v7 v12 v13 M11 hF _ _ _ hH (lv_sub hl [4, 6, 3, 2, 1, 0] rfl)
    · have hF := zi_t hF hc
      refine z_ldc2 (v := (-9223372036854775808:Int)) (n := -9223372036854775808) hx hb hX.1.2.2.2.1 (hts (.constantLong RX7 91 (-9223372036854775808)) (by decide +kernel)) (by decide +kernel) dX7_mean_17 ?_
      exact z_lret hX hr hlocks hH hF dX7_mean_20
  have hl : lv_has ls 7 [(0, .ref (α 0)), (1, .int (nZ a1)), (2, .int (nZ a2))] := hl
  unfold fX7_mean at hF
  refine lv_iload_n hx hb dX7_mean_0 rfl (lv_at hl 1 rfl) ?_
  refine z_iconst hx hb dX7_mean_1 ?_
  obtain ⟨h1, hF⟩ := zg_e hF
  refine z_icmp_eq (tgt := 10) hx hb h1 (by decide) dX7_mean_2 (by decide) (fun hc => ?_) (fun hc => ?_)
  · have hF := zi_t hF hc
    exact J10 a1 a2 M hF _ _ _ hH (lv_sub hl [0, 1, 2] rfl)
  · have hF := zi_f hF hc
    refine lv_iload_n hx hb dX7_mean_5 rfl (lv_at hl 1 rfl) ?_
    refine z_iconst hx hb dX7_mean_6 ?_
    refine z_icmp_ne (tgt := 17) hx hb h1 (by decide) dX7_mean_7 (by decide) (fun hc => ?_) (fun hc => ?_)
    · have hF := zi_f hF hc
      refine z_ldc2 (v := (-9223372036854775808:Int)) (n := -9223372036854775808) hx hb hX.1.2.2.2.1 (hts (.constantLong RX7 91 (-9223372036854775808)) (by decide +kernel)) (by decide +kernel) dX7_mean_17 ?_
      exact z_lret hX hr hlocks hH hF dX7_mean_20
    · have hF := zi_t hF hc
      exact J10 a1 a2 M hF _ _ _ hH (lv_sub hl [0, 1, 2] rfl)
theorem flX7_book_14 : zF RX7 wsX7_book 14 7 0 := ⟨_, TX7, _, rfl, by decide +kernel, by decide +kernel, by decide, rfl⟩
theorem flX7_book_167 : zF RX7 wsX7_book 167 3 5 := ⟨_, TX3, _, rfl, by decide +kernel, by decide +kernel, by decide, rfl⟩
theorem flX7_book_171 : zF RX7 wsX7_book 171 0 2 := ⟨_, TX0, _, rfl, by decide +kernel, by decide +kernel, by decide, rfl⟩
theorem flX7_book_176 : zF RX7 wsX7_book 176 0 0 := ⟨_, TX0, _, rfl, by decide +kernel, by decide +kernel, by decide, rfl⟩
theorem flX7_book_179 : zF RX7 wsX7_book 179 0 1 := ⟨_, TX0, _, rfl, by decide +kernel, by decide +kernel, by decide, rfl⟩
theorem fpX7_book_171 : zFp RX7 wsX7_book 171 0 2 .int := ⟨_, TX0, _, tyX0, rfl, by decide +kernel, by decide +kernel, by decide, rfl, tyX0_ok, nmX0, rfl, by decide +kernel⟩
set_option maxHeartbeats 4000000 in
set_option maxRecDepth 100000 in
theorem ctX7_book (l : Launch) (κ : Bool) (D : va_G) (cs : Nat → ClassId) (α : Nat → Nat) (N : Nat) (M : zM) (a1 : Int) (a2 : Int) (a3 : Int) (r : Int) (M' : zM) (hF : fX7_book N a1 a2 a3 M = some (r, M')) : Met l yX7_book wsX7_book ({ frames := 1, cells := 0, slots := 0, locals := 21 }) (zPre D cs (LX κ) α M [.ref (α 0), .int (nZ a1), .int (nZ a2), .int (nZ a3)]) (zQi D cs (LX κ) α r M') 0 0 (zA (LX κ).length α) := by
  refine z_met (cc := cX7_book) (maxL := 6) (ret := (some .int)) (by decide +kernel) rfl RX7 rfl (Nat.le_of_ble_eq_true rfl) ?_
  intro p e s m below meth c ls hX hr hlocks hH hl
  have hx := hX.1.1
  have hb := hX.1.2.1
  have hts := hX.1.2.2.2.2
  have hl : lv_has ls 6 [(0, .ref (α 0)), (1, .int (nZ a1)), (2, .int (nZ a2)), (3, .int (nZ a3))] := hl
  unfold fX7_book at hF
  refine lv_aload_n hx hb dX7_book_0 rfl (lv_at hl 0 rfl) ?_
  refine z_getr hX hH 0 0 1 rfl rfl flX7_book_14 dX7_book_1 ?_
  refine z_getr hX hH 1 5 19 rfl rfl flX7_book_167 dX7_book_4 ?_
  refine lv_astore (lv' := [(4, .ref (α 19)), (0, .ref (α 0)), (1, .int (nZ a1)), (2, .int (nZ a2)), (3, .int (nZ a3))]) hx hb dX7_book_7 hl (by decide) rfl (fun ls hl => ?_)
  refine lv_iload_n hx hb dX7_book_9 rfl (lv_at hl 2 rfl) ?_
  refine z_iconst hx hb dX7_book_10 ?_
  obtain ⟨h1, hF⟩ := zg_e hF
  refine z_icmp_ne (tgt := 22) hx hb h1 (by decide) dX7_book_11 (by decide) (fun hc => ?_) (fun hc => ?_)
  · have hF := zi_f hF hc
    refine lv_iload_n hx hb dX7_book_22 rfl (lv_at hl 2 rfl) ?_
    refine lv_iload_n hx hb dX7_book_23 rfl (lv_at hl 3 rfl) ?_
    obtain ⟨r2, c3, hF⟩ := zc_e hF
    refine z_callSi (As := [.int (nZ a1), .int (nZ a2)]) (is := []) (Ll := []) hX hH rfl (ctX7_keyOf l D cs (zsb [] α) N (zpk [] M) a1 a2 r2 c3) (va_cwS 2 hts gX7_book_X7_keyOf rfl rfl rfl (by decide +kernel) ⟨Nat.le_of_ble_eq_true rfl, Nat.le_of_ble_eq_true rfl⟩) rfl hl.1 (Nat.le_of_ble_eq_true rfl) rfl dX7_book_24 ⟨Nat.zero_le _, Nat.zero_le _⟩ (fun H locs hH => ?_)
    have hH : zH D cs (LX κ) α M (zA (LX κ).length α) s H locs := hH
    obtain ⟨v4, ev4, hF⟩ := zl_e hF
    refine z_istore ev4 (lv' := [(5, .int (nZ v4)), (4, .ref (α 19)), (0, .ref (α 0)), (1, .int (nZ a1)), (2, .int (nZ a2)), (3, .int (nZ a3))]) hx hb dX7_book_27 hl (by decide) rfl (fun ls hl => ?_)
    refine lv_iload hx hb dX7_book_29 (lv_at hl 0 rfl) ?_
    obtain ⟨h5, hF⟩ := zg_e hF
    refine z_if_ge (tgt := 36) hx hb h5 dX7_book_31 (by decide) (fun hc => ?_) (fun hc => ?_)
    · have hF := zi_t hF hc
      refine lv_iload_n hx hb dX7_book_36 rfl (lv_at hl 5 rfl) ?_
      obtain ⟨h6, hF⟩ := zg_e hF
      refine z_if_lt (tgt := 45) hx hb h6 dX7_book_37 (by decide) (fun hc => ?_) (fun hc => ?_)
      · have hF := zi_t hF hc
        refine z_bipush (v := -2) hx hb dX7_book_45 (by decide +kernel) ?_
        exact z_iret hX hr hlocks hH hF rfl dX7_book_47
      · have hF := zi_f hF hc
        refine lv_iload_n hx hb dX7_book_40 rfl (lv_at hl 5 rfl) ?_
        refine z_iconst hx hb dX7_book_41 ?_
        refine z_icmp_lt (tgt := 48) hx hb h6 (by decide) dX7_book_42 (by decide) (fun hc => ?_) (fun hc => ?_)
        · have hF := zi_t hF hc
          refine lv_aload hx hb dX7_book_48 (lv_at hl 1 rfl) ?_
          refine z_geti hX hH 19 2 rfl rfl flX7_book_171 dX7_book_50 ?_
          refine z_bipush (v := 8) hx hb dX7_book_53 (by decide +kernel) ?_
          obtain ⟨h7, hF⟩ := zg_e hF
          refine z_icmp_lt (tgt := 61) hx hb h7 (by decide) dX7_book_55 (by decide) (fun hc => ?_) (fun hc => ?_)
          · have hF := zi_t hF hc
            refine lv_aload hx hb dX7_book_61 (lv_at hl 1 rfl) ?_
            refine z_getr hX hH 19 0 20 rfl rfl flX7_book_176 dX7_book_63 ?_
            refine lv_aload hx hb dX7_book_66 (lv_at hl 1 rfl) ?_
            refine z_geti hX hH 19 2 rfl rfl flX7_book_171 dX7_book_68 ?_
            refine lv_iload hx hb dX7_book_71 (lv_at hl 0 rfl) ?_
            obtain ⟨h8, hF⟩ := zg_e hF
            obtain ⟨M9, eM9, hF⟩ := zl_e hF
            refine z_iast hX hH 20 8 eM9 rfl h8 (by decide) dX7_book_73 (fun H locs hH => ?_)
            refine lv_aload hx hb dX7_book_74 (lv_at hl 1 rfl) ?_
            refine z_getr hX hH 19 1 21 rfl rfl flX7_book_179 dX7_book_76 ?_
            refine lv_aload hx hb dX7_book_79 (lv_at hl 1 rfl) ?_
            refine z_geti hX hH 19 2 rfl rfl flX7_book_171 dX7_book_81 ?_
            refine lv_iload_n hx hb dX7_book_84 rfl (lv_at hl 5 rfl) ?_
            obtain ⟨h10, hF⟩ := zg_e hF
            obtain ⟨M11, eM11, hF⟩ := zl_e hF
            refine z_iast hX hH 21 8 eM11 rfl h10 (by decide) dX7_book_85 (fun H locs hH => ?_)
            refine lv_aload hx hb dX7_book_86 (lv_at hl 1 rfl) ?_
            refine lv_dup hx hb dX7_book_88 rfl ?_
            refine z_geti hX hH 19 2 rfl rfl flX7_book_171 dX7_book_89 ?_
            refine z_iconst hx hb dX7_book_92 ?_
            refine z_iadd hx hb dX7_book_93 ?_
            obtain ⟨M12, eM12, hF⟩ := zl_e hF
            refine z_put hX hH 19 2 eM12 rfl rfl fpX7_book_171 rfl rfl dX7_book_94 (fun H locs hH => ?_)
            refine lv_aload hx hb dX7_book_97 (lv_at hl 1 rfl) ?_
            refine z_geti hX hH 19 2 rfl rfl flX7_book_171 dX7_book_99 ?_
            exact z_iret hX hr hlocks hH hF rfl dX7_book_102
          · have hF := zi_f hF hc
            refine z_bipush (v := -4) hx hb dX7_book_58 (by decide +kernel) ?_
            exact z_iret hX hr hlocks hH hF rfl dX7_book_60
        · have hF := zi_f hF hc
          refine z_bipush (v := -2) hx hb dX7_book_45 (by decide +kernel) ?_
          exact z_iret hX hr hlocks hH hF rfl dX7_book_47
    · have hF := zi_f hF hc
      refine z_iconst hx hb dX7_book_34 ?_
      exact z_iret hX hr hlocks hH hF rfl dX7_book_35
  · have hF := zi_t hF hc
    refine lv_aload hx hb dX7_book_14 (lv_at hl 0 rfl) ?_
    refine z_iconst hx hb dX7_book_16 ?_
    obtain ⟨M13, eM13, hF⟩ := zl_e hF
    refine z_put hX hH 19 2 eM13 rfl rfl fpX7_book_171 rfl rfl dX7_book_17 (fun H locs hH => ?_)
    refine z_iconst hx hb dX7_book_20 ?_
    exact z_iret hX hr hlocks hH hF rfl dX7_book_21
theorem flX7_looked_14 : zF RX7 wsX7_looked 14 7 0 := ⟨_, TX7, _, rfl, by decide +kernel, by decide +kernel, by decide, rfl⟩
theorem flX7_looked_167 : zF RX7 wsX7_looked 167 3 5 := ⟨_, TX3, _, rfl, by decide +kernel, by decide +kernel, by decide, rfl⟩
theorem flX7_looked_171 : zF RX7 wsX7_looked 171 0 2 := ⟨_, TX0, _, rfl, by decide +kernel, by decide +kernel, by decide, rfl⟩
theorem flX7_looked_97 : zF RX7 wsX7_looked 97 3 3 := ⟨_, TX3, _, rfl, by decide +kernel, by decide +kernel, by decide, rfl⟩
theorem flX7_looked_176 : zF RX7 wsX7_looked 176 0 0 := ⟨_, TX0, _, rfl, by decide +kernel, by decide +kernel, by decide, rfl⟩
theorem flX7_looked_179 : zF RX7 wsX7_looked 179 0 1 := ⟨_, TX0, _, rfl, by decide +kernel, by decide +kernel, by decide, rfl⟩
set_option maxHeartbeats 4000000 in
set_option maxRecDepth 100000 in
theorem ctX7_looked (l : Launch) (κ : Bool) (D : va_G) (cs : Nat → ClassId) (α : Nat → Nat) (N : Nat) (M : zM) (r : Int) (M' : zM) (hF : fX7_looked N M = some (r, M')) : Met l yX7_looked wsX7_looked ({ frames := 0, cells := 0, slots := 0, locals := 0 }) (zPre D cs (LX κ) α M [.ref (α 0)]) (zQi D cs (LX κ) α r M') 0 0 (zA (LX κ).length α) := by
  refine z_met (cc := cX7_looked) (maxL := 3) (ret := (some .int)) (by decide +kernel) rfl RX7 rfl (Nat.le_of_ble_eq_true rfl) ?_
  intro p e s m below meth c ls hX hr hlocks hH hl
  have hx := hX.1.1
  have hb := hX.1.2.1
  have hts := hX.1.2.2.2.2
  have L10 : ∀ (n : Nat) (x2 : Int) (M0 : zM), fX7_looked_10 N n x2 M0 = some (r, M') → zGo p l e (headSpec wsX7_looked ({ frames := 0, cells := 0, slots := 0, locals := 0 })).room s m ([.ref (α 0)] : List Value).toArray below meth c (MQ below (zQi D cs (LX κ) α r M') ([.ref (α 0)] : List Value).toArray s 0 0 (zA (LX κ).length α)) D cs (LX κ) α (zA (LX κ).length α) 3 10 [(0, .ref (α 0)), (1, .ref (α 19)), (2, .int (nZ x2))] [] M0 := by
    intro  n
    induction n with
    | zero =>
      intro x2 M0 hF
      have hF : (none : Option (Int × zM)) = some (r, M') := hF
      cases hF
    | succ n hk10 =>
      intro x2 M0 hF H locs ls hH hl
      have hF : sX7_looked_10 N (fun x2 M0 => fX7_looked_10 N n x2 M0) x2 M0 = some (r, M') := hF
      unfold sX7_looked_10 at hF
      refine lv_iload_n hx hb dX7_looked_10 rfl (lv_at hl 2 rfl) ?_
      refine lv_aload_n hx hb dX7_looked_11 rfl (lv_at hl 1 rfl) ?_
      refine z_geti hX hH 19 2 rfl rfl flX7_looked_171 dX7_looked_12 ?_
      obtain ⟨h2, hF⟩ := zg_e hF
      obtain ⟨h3, hF⟩ := zg_e hF
      refine z_icmp_ge (tgt := 51) hx hb h2 h3 dX7_looked_15 (by decide) (fun hc => ?_) (fun hc => ?_)
      · have hF := zi_t hF hc
        refine z_bipush (v := -5) hx hb dX7_looked_51 (by decide +kernel) ?_
        exact z_iret hX hr hlocks hH hF rfl dX7_looked_53
      · have hF := zi_f hF hc
        refine lv_aload_n hx hb dX7_looked_18 rfl (lv_at hl 0 rfl) ?_
        refine z_getr hX hH 0 0 1 rfl rfl flX7_looked_14 dX7_looked_19 ?_
        refine z_getr hX hH 1 3 9 rfl rfl flX7_looked_97 dX7_looked_22 ?_
        refine z_iconst hx hb dX7_looked_25 ?_
        refine z_aald hX hH 9 4 10 rfl rfl rfl (by decide) (by decide) rfl dX7_looked_26 ?_
        refine lv_aload_n hx hb dX7_looked_27 rfl (lv_at hl 1 rfl) ?_
        refine z_getr hX hH 19 0 20 rfl rfl flX7_looked_176 dX7_looked_28 ?_
        refine lv_iload_n hx hb dX7_looked_31 rfl (lv_at hl 2 rfl) ?_
        obtain ⟨h4, hF⟩ := zg_e hF
        refine z_iald hX hH 20 8 rfl h4 (by decide) dX7_looked_32 ?_
        obtain ⟨h5, hF⟩ := zg_e hF
        refine z_iald hX hH 10 400 rfl h5 (by decide) dX7_looked_33 ?_
        refine lv_aload_n hx hb dX7_looked_34 rfl (lv_at hl 1 rfl) ?_
        refine z_getr hX hH 19 1 21 rfl rfl flX7_looked_179 dX7_looked_35 ?_
        refine lv_iload_n hx hb dX7_looked_38 rfl (lv_at hl 2 rfl) ?_
        refine z_iald hX hH 21 8 rfl h4 (by decide) dX7_looked_39 ?_
        obtain ⟨h6, hF⟩ := zg_e hF
        obtain ⟨h7, hF⟩ := zg_e hF
        refine z_icmp_eq (tgt := 45) hx hb h6 h7 dX7_looked_40 (by decide) (fun hc => ?_) (fun hc => ?_)
        · have hF := zi_t hF hc
          obtain ⟨v8, ev8, hF⟩ := zl_e hF
          refine z_iinc ev8 (lv' := [(2, .int (nZ v8)), (0, .ref (α 0)), (1, .ref (α 19))]) hx hb dX7_looked_45 hl (k := 2) rfl (by decide) rfl (fun ls hl => ?_)
          refine lv_goto (tgt := 10) hx hb dX7_looked_48 (by decide) ?_
          exact hk10 v8 M0 hF _ _ _ hH (lv_sub hl [1, 2, 0] rfl)
        · have hF := zi_f hF hc
          refine lv_iload_n hx hb dX7_looked_43 rfl (lv_at hl 2 rfl) ?_
          exact z_iret hX hr hlocks hH hF rfl dX7_looked_44
  have hl : lv_has ls 3 [(0, .ref (α 0))] := hl
  unfold fX7_looked at hF
  refine lv_aload_n hx hb dX7_looked_0 rfl (lv_at hl 0 rfl) ?_
  refine z_getr hX hH 0 0 1 rfl rfl flX7_looked_14 dX7_looked_1 ?_
  refine z_getr hX hH 1 5 19 rfl rfl flX7_looked_167 dX7_looked_4 ?_
  refine lv_astore_n (lv' := [(1, .ref (α 19)), (0, .ref (α 0))]) hx hb dX7_looked_7 rfl hl (by decide) rfl (fun ls hl => ?_)
  refine z_iconst hx hb dX7_looked_8 ?_
  obtain ⟨v1, ev1, hF⟩ := zl_e hF
  refine z_istore_n ev1 (lv' := [(2, .int (nZ v1)), (1, .ref (α 19)), (0, .ref (α 0))]) hx hb dX7_looked_9 rfl hl (by decide) rfl (fun ls hl => ?_)
  exact L10 N v1 M hF _ _ _ hH (lv_sub hl [2, 1, 0] rfl)
set_option maxHeartbeats 4000000 in
set_option maxRecDepth 100000 in
theorem ctX7_isTape (l : Launch) (D : va_G) (cs : Nat → ClassId) (α : Nat → Nat) (N : Nat) (M : zM) (a1 : Int) (r : Int) (hF : fX7_isTape N a1 = some r) : Met l yX7_isTape wsX7_isTape ({ frames := 0, cells := 0, slots := 0, locals := 0 }) (zPre D cs LNo α M [.int (nZ a1)]) (zQi D cs LNo α r M) 0 0 (zA LNo.length α) := by
  refine z_met (cc := cX7_isTape) (maxL := 1) (ret := (some .boolean)) (by decide +kernel) rfl RX7 rfl (Nat.le_of_ble_eq_true rfl) ?_
  intro p e s m below meth c ls hX hr hlocks hH hl
  have hx := hX.1.1
  have hb := hX.1.2.1
  have hts := hX.1.2.2.2.2
  have hl : lv_has ls 1 [(0, .int (nZ a1))] := hl
  unfold fX7_isTape at hF
  refine lv_iload_n hx hb dX7_isTape_0 rfl (lv_at hl 0 rfl) ?_
  obtain ⟨h1, hF⟩ := zg_e hF
  refine z_if_lt (tgt := 14) hx hb h1 dX7_isTape_1 (by decide) (fun hc => ?_) (fun hc => ?_)
  · have hF := zi_t hF hc
    refine z_iconst hx hb dX7_isTape_14 ?_
    exact z_iretP hX hr hlocks hH hF rfl dX7_isTape_15
  · have hF := zi_f hF hc
    refine lv_iload_n hx hb dX7_isTape_4 rfl (lv_at hl 0 rfl) ?_
    refine z_bipush (v := 6) hx hb dX7_isTape_5 (by decide +kernel) ?_
    refine z_icmp_ge (tgt := 14) hx hb h1 (by decide) dX7_isTape_7 (by decide) (fun hc => ?_) (fun hc => ?_)
    · have hF := zi_t hF hc
      refine z_iconst hx hb dX7_isTape_14 ?_
      exact z_iretP hX hr hlocks hH hF rfl dX7_isTape_15
    · have hF := zi_f hF hc
      refine z_iconst hx hb dX7_isTape_10 ?_
      refine lv_goto (tgt := 15) hx hb dX7_isTape_11 (by decide) ?_
      exact z_iretP hX hr hlocks hH hF rfl dX7_isTape_15
theorem flX7_judge_36 : zF RX7 wsX7_judge 36 7 6 := ⟨_, TX7, _, rfl, by decide +kernel, by decide +kernel, by decide, rfl⟩
theorem ra_LX_71 : ∀ i : Nat, i < 6 → ([71, 73, 75, 77, 79, 81] : List Nat)[i]? = some (71 + 2 * i) := fun i h => match i, h with | 0, _ => rfl | 1, _ => rfl | 2, _ => rfl | 3, _ => rfl | 4, _ => rfl | 5, _ => rfl | n + 6, h => absurd h (by omega)
theorem flX7_judge_185 : zF RX7 wsX7_judge 185 4 1 := ⟨_, TX4, _, rfl, by decide +kernel, by decide +kernel, by decide, rfl⟩
theorem fm_LX_71_0 (κ : Bool) : ∀ i : Nat, i < 6 → (LX κ)[71 + 2 * i]? = some (0, 4, [71 + 2 * i + 1 + 2, 0, 0]) := fun i h => match i, h with | 0, _ => rfl | 1, _ => rfl | 2, _ => rfl | 3, _ => rfl | 4, _ => rfl | 5, _ => rfl | n + 6, h => absurd h (by omega)
theorem flX7_judge_14 : zF RX7 wsX7_judge 14 7 0 := ⟨_, TX7, _, rfl, by decide +kernel, by decide +kernel, by decide, rfl⟩
theorem flX7_judge_62 : zF RX7 wsX7_judge 62 3 2 := ⟨_, TX3, _, rfl, by decide +kernel, by decide +kernel, by decide, rfl⟩
theorem flX7_judge_154 : zF RX7 wsX7_judge 154 2 0 := ⟨_, TX2, _, rfl, by decide +kernel, by decide +kernel, by decide, rfl⟩
theorem flX7_judge_189 : zF RX7 wsX7_judge 189 4 0 := ⟨_, TX4, _, rfl, by decide +kernel, by decide +kernel, by decide, rfl⟩
theorem fm_LX_71_1 (κ : Bool) : ∀ i : Nat, i < 6 → (LX κ)[71 + 2 * i + 1]? = some (2, 60, []) := fun i h => match i, h with | 0, _ => rfl | 1, _ => rfl | 2, _ => rfl | 3, _ => rfl | 4, _ => rfl | 5, _ => rfl | n + 6, h => absurd h (by omega)
theorem flX7_judge_160 : zF RX7 wsX7_judge 160 2 2 := ⟨_, TX2, _, rfl, by decide +kernel, by decide +kernel, by decide, rfl⟩
theorem flX7_judge_188 : zF RX7 wsX7_judge 188 4 2 := ⟨_, TX4, _, rfl, by decide +kernel, by decide +kernel, by decide, rfl⟩
set_option maxHeartbeats 4000000 in
set_option maxRecDepth 100000 in
theorem ctX7_judge (l : Launch) (κ : Bool) (D : va_G) (cs : Nat → ClassId) (α : Nat → Nat) (N : Nat) (M : zM) (a1 : Int) (a2 : Int) (r : Int) (M' : zM) (hF : fX7_judge N a1 a2 M = some (r, M')) : Met l yX7_judge wsX7_judge ({ frames := 1, cells := 0, slots := 0, locals := 21 }) (zPre D cs (LX κ) α M [.ref (α 0), .int (nZ a1), .int (nZ a2)]) (zQi D cs (LX κ) α r M') 0 0 (zA (LX κ).length α) := by
  refine z_met (cc := cX7_judge) (maxL := 8) (ret := (some .int)) (by decide +kernel) rfl RX7 rfl (Nat.le_of_ble_eq_true rfl) ?_
  intro p e s m below meth c ls hX hr hlocks hH hl
  have hx := hX.1.1
  have hb := hX.1.2.1
  have hts := hX.1.2.2.2.2
  have L97 : ∀ (hf0 : a1.toNat < 6) (n : Nat) (x2 : Int) (x4 : Int) (x5 : Int) (x6 : Int) (x7 : Int) (M0 : zM), fX7_judge_97 N a1 n x2 x4 x5 x6 x7 M0 = some (r, M') → zGo p l e (headSpec wsX7_judge ({ frames := 1, cells := 0, slots := 0, locals := 21 })).room s m ([.ref (α 0), .int (nZ a1), .int (nZ a2)] : List Value).toArray below meth c (MQ below (zQi D cs (LX κ) α r M') ([.ref (α 0), .int (nZ a1), .int (nZ a2)] : List Value).toArray s 0 0 (zA (LX κ).length α)) D cs (LX κ) α (zA (LX κ).length α) 8 97 [(0, .ref (α 0)), (2, .int (nZ x2)), (3, .ref (α (71 + 2 * a1.toNat))), (4, .int (nZ x4)), (5, .int (nZ x5)), (6, .int (nZ x6)), (7, .int (nZ x7))] [] M0 := by
    intro hf0 n
    induction n with
    | zero =>
      intro x2 x4 x5 x6 x7 M0 hF
      have hF : (none : Option (Int × zM)) = some (r, M') := hF
      cases hF
    | succ n hk97 =>
      intro x2 x4 x5 x6 x7 M0 hF H locs ls hH hl
      have hF : sX7_judge_97 N a1 (fun x2 x4 x5 x6 x7 M0 => fX7_judge_97 N a1 n x2 x4 x5 x6 x7 M0) x2 x4 x5 x6 x7 M0 = some (r, M') := hF
      unfold sX7_judge_97 at hF
      refine lv_iload hx hb dX7_judge_97 (lv_at hl 6 rfl) ?_
      refine lv_iload hx hb dX7_judge_99 (lv_at hl 3 rfl) ?_
      obtain ⟨h16, hF⟩ := zg_e hF
      obtain ⟨h17, hF⟩ := zg_e hF
      refine z_icmp_ge (tgt := 157) hx hb h16 h17 dX7_judge_101 (by decide) (fun hc => ?_) (fun hc => ?_)
      · have hF := zi_t hF hc
        refine z_bipush (v := -5) hx hb dX7_judge_157 (by decide +kernel) ?_
        exact z_iret hX hr hlocks hH hF rfl dX7_judge_159
      · have hF := zi_f hF hc
        refine lv_iload hx hb dX7_judge_104 (lv_at hl 6 rfl) ?_
        refine lv_iload hx hb dX7_judge_106 (lv_at hl 4 rfl) ?_
        obtain ⟨h18, hF⟩ := zg_e hF
        refine z_icmp_lt (tgt := 117) hx hb h16 h18 dX7_judge_108 (by decide) (fun hc => ?_) (fun hc => ?_)
        · have hF := zi_t hF hc
          refine lv_aload_n hx hb dX7_judge_117 rfl (lv_at hl 2 rfl) ?_
          refine z_getr hX hH (71 + 2 * a1.toNat) 0 (71 + 2 * a1.toNat + 1) (fm_LX_71_0 κ a1.toNat hf0) rfl flX7_judge_189 dX7_judge_118 ?_
          refine lv_iload_n hx hb dX7_judge_121 rfl (lv_at hl 1 rfl) ?_
          refine lv_iload hx hb dX7_judge_122 (lv_at hl 6 rfl) ?_
          refine z_iadd hx hb dX7_judge_124 ?_
          obtain ⟨h19, hF⟩ := zg_e hF
          refine z_lald hX hH (71 + 2 * a1.toNat + 1) 60 (fm_LX_71_1 κ a1.toNat hf0) h19 (by decide) dX7_judge_125 ?_
          refine lv_iload hx hb dX7_judge_126 (lv_at hl 5 rfl) ?_
          obtain ⟨h20, hF⟩ := zg_e hF
          refine z_i2l hx hb h20 dX7_judge_128 ?_
          obtain ⟨h21, hF⟩ := zg_e hF
          obtain ⟨h22, hF⟩ := zg_e hF
          refine z_lcmp_eq (tgt := 136) hx hb h21 h22 dX7_judge_129 dX7_judge_130 (by decide) (fun hc => ?_) (fun hc => ?_)
          · have hF := zi_t hF hc
            refine lv_aload_n hx hb dX7_judge_136 rfl (lv_at hl 0 rfl) ?_
            refine z_getr hX hH 0 0 1 rfl rfl flX7_judge_14 dX7_judge_137 ?_
            refine z_getr hX hH 1 2 4 rfl rfl flX7_judge_62 dX7_judge_140 ?_
            refine z_getr hX hH 4 2 7 rfl rfl flX7_judge_160 dX7_judge_143 ?_
            refine lv_iload hx hb dX7_judge_146 (lv_at hl 5 rfl) ?_
            obtain ⟨h23, hF⟩ := zg_e hF
            refine z_iald hX hH 7 405 rfl h23 (by decide) dX7_judge_148 ?_
            obtain ⟨v24, ev24, hF⟩ := zl_e hF
            refine z_istore ev24 (lv' := [(6, .int (nZ v24)), (0, .ref (α 0)), (2, .int (nZ x2)), (3, .ref (α (71 + 2 * a1.toNat))), (4, .int (nZ x4)), (5, .int (nZ x5)), (7, .int (nZ x7))]) hx hb dX7_judge_149 hl (by decide) rfl (fun ls hl => ?_)
            obtain ⟨v25, ev25, hF⟩ := zl_e hF
            refine z_iinc ev25 (lv' := [(7, .int (nZ v25)), (6, .int (nZ v24)), (0, .ref (α 0)), (2, .int (nZ x2)), (3, .ref (α (71 + 2 * a1.toNat))), (4, .int (nZ x4)), (5, .int (nZ x5))]) hx hb dX7_judge_151 hl (k := 6) rfl (by decide) rfl (fun ls hl => ?_)
            refine lv_goto (tgt := 97) hx hb dX7_judge_154 (by decide) ?_
            exact hk97 x2 x4 x5 v24 v25 M0 hF _ _ _ hH (lv_sub hl [2, 3, 4, 5, 6, 1, 0] rfl)
          · have hF := zi_f hF hc
            refine lv_iload hx hb dX7_judge_133 (lv_at hl 6 rfl) ?_
            exact z_iret hX hr hlocks hH hF rfl dX7_judge_135
        · have hF := zi_f hF hc
          refine z_bipush (v := 100) hx hb dX7_judge_111 (by decide +kernel) ?_
          refine lv_iload hx hb dX7_judge_113 (lv_at hl 6 rfl) ?_
          refine z_iadd hx hb dX7_judge_115 ?_
          exact z_iret hX hr hlocks hH hF rfl dX7_judge_116
  have J79 : ∀ (hf0 : a1.toNat < 6) (x2 : Int) (x4 : Int) (y0 : Int) (M0 : zM), sX7_judge_79 N a1 x2 x4 y0 M0 = some (r, M') → zGo p l e (headSpec wsX7_judge ({ frames := 1, cells := 0, slots := 0, locals := 21 })).room s m ([.ref (α 0), .int (nZ a1), .int (nZ a2)] : List Value).toArray below meth c (MQ below (zQi D cs (LX κ) α r M') ([.ref (α 0), .int (nZ a1), .int (nZ a2)] : List Value).toArray s 0 0 (zA (LX κ).length α)) D cs (LX κ) α (zA (LX κ).length α) 8 79 [(0, .ref (α 0)), (2, .int (nZ x2)), (3, .ref (α (71 + 2 * a1.toNat))), (4, .int (nZ x4))] [.int (nZ y0)] M0 := by
    intro hf0 x2 x4 y0 M0 hF H locs ls hH hl
    unfold sX7_judge_79 at hF
    obtain ⟨v9, ev9, hF⟩ := zl_e hF
    refine z_istore ev9 (lv' := [(5, .int (nZ v9)), (0, .ref (α 0)), (2, .int (nZ x2)), (3, .ref (α (71 + 2 * a1.toNat))), (4, .int (nZ x4))]) hx hb dX7_judge_79 hl (by decide) rfl (fun ls hl => ?_)
    refine lv_aload_n hx hb dX7_judge_81 rfl (lv_at hl 1 rfl) ?_
    refine z_getr hX hH 0 0 1 rfl rfl flX7_judge_14 dX7_judge_82 ?_
    refine z_getr hX hH 1 2 4 rfl rfl flX7_judge_62 dX7_judge_85 ?_
    refine z_iconst hx hb dX7_judge_88 ?_
    obtain ⟨r12, M11, c10, hF⟩ := zc2_e hF
    obtain ⟨M13, eM13, hF⟩ := zl_e hF
    refine z_callVi (As := [.int (nZ (1:Int))]) hX hH 4 2 (em_LX_is_4n5 κ) (ctX2_oldest l D cs (zsb is_4n5 α) N (zpk is_4n5 M0) (1:Int) r12 M11 c10) (cwV 1 hts gX7_judge_X2_oldest rfl rfl rfl (by decide +kernel) ⟨Nat.le_of_ble_eq_true rfl, Nat.le_of_ble_eq_true rfl⟩) rfl rfl rfl hl.1 (Nat.le_of_ble_eq_true rfl) rfl dX7_judge_89 ⟨Nat.zero_le _, Nat.zero_le _⟩ (fun H locs hH => ?_)
    rw [← eM13] at hH
    obtain ⟨v14, ev14, hF⟩ := zl_e hF
    refine z_istore ev14 (lv' := [(6, .int (nZ v14)), (5, .int (nZ v9)), (0, .ref (α 0)), (2, .int (nZ x2)), (3, .ref (α (71 + 2 * a1.toNat))), (4, .int (nZ x4))]) hx hb dX7_judge_92 hl (by decide) rfl (fun ls hl => ?_)
    refine z_iconst hx hb dX7_judge_94 ?_
    obtain ⟨v15, ev15, hF⟩ := zl_e hF
    refine z_istore ev15 (lv' := [(7, .int (nZ v15)), (6, .int (nZ v14)), (5, .int (nZ v9)), (0, .ref (α 0)), (2, .int (nZ x2)), (3, .ref (α (71 + 2 * a1.toNat))), (4, .int (nZ x4))]) hx hb dX7_judge_95 hl (by decide) rfl (fun ls hl => ?_)
    exact L97 hf0 N x2 x4 v9 v14 v15 M13 hF _ _ _ hH (lv_sub hl [3, 4, 5, 6, 2, 1, 0] rfl)
  have J69 : ∀ (hf0 : a1.toNat < 6) (x2 : Int) (x4 : Int) (M0 : zM), sX7_judge_69 N a1 x2 x4 M0 = some (r, M') → zGo p l e (headSpec wsX7_judge ({ frames := 1, cells := 0, slots := 0, locals := 21 })).room s m ([.ref (α 0), .int (nZ a1), .int (nZ a2)] : List Value).toArray below meth c (MQ below (zQi D cs (LX κ) α r M') ([.ref (α 0), .int (nZ a1), .int (nZ a2)] : List Value).toArray s 0 0 (zA (LX κ).length α)) D cs (LX κ) α (zA (LX κ).length α) 8 69 [(0, .ref (α 0)), (2, .int (nZ x2)), (3, .ref (α (71 + 2 * a1.toNat))), (4, .int (nZ x4))] [] M0 := by
    intro hf0 x2 x4 M0 hF H locs ls hH hl
    unfold sX7_judge_69 at hF
    refine z_iconst hx hb dX7_judge_69 ?_
    refine lv_goto (tgt := 79) hx hb dX7_judge_70 (by decide) ?_
    exact J79 hf0 x2 x4 (0:Int) M0 hF _ _ _ hH (lv_sub hl [0, 1, 2, 3] rfl)
  have J35 : ∀ (hf0 : a1.toNat < 6) (x2 : Int) (M0 : zM), sX7_judge_35 N a1 x2 M0 = some (r, M') → zGo p l e (headSpec wsX7_judge ({ frames := 1, cells := 0, slots := 0, locals := 21 })).room s m ([.ref (α 0), .int (nZ a1), .int (nZ a2)] : List Value).toArray below meth c (MQ below (zQi D cs (LX κ) α r M') ([.ref (α 0), .int (nZ a1), .int (nZ a2)] : List Value).toArray s 0 0 (zA (LX κ).length α)) D cs (LX κ) α (zA (LX κ).length α) 8 35 [(0, .ref (α 0)), (2, .int (nZ x2)), (3, .ref (α (71 + 2 * a1.toNat)))] [] M0 := by
    intro hf0 x2 M0 hF H locs ls hH hl
    unfold sX7_judge_35 at hF
    refine lv_aload_n hx hb dX7_judge_35 rfl (lv_at hl 0 rfl) ?_
    refine z_getr hX hH 0 0 1 rfl rfl flX7_judge_14 dX7_judge_36 ?_
    refine z_getr hX hH 1 2 4 rfl rfl flX7_judge_62 dX7_judge_39 ?_
    refine z_getr hX hH 4 0 5 rfl rfl flX7_judge_154 dX7_judge_42 ?_
    refine z_iconst hx hb dX7_judge_45 ?_
    refine z_iald hX hH 5 5 rfl (by decide) (by decide) dX7_judge_46 ?_
    obtain ⟨v7, ev7, hF⟩ := zl_e hF
    refine z_istore ev7 (lv' := [(4, .int (nZ v7)), (0, .ref (α 0)), (2, .int (nZ x2)), (3, .ref (α (71 + 2 * a1.toNat)))]) hx hb dX7_judge_47 hl (by decide) rfl (fun ls hl => ?_)
    refine lv_aload_n hx hb dX7_judge_49 rfl (lv_at hl 3 rfl) ?_
    refine z_geti hX hH (71 + 2 * a1.toNat) 1 (fm_LX_71_0 κ a1.toNat hf0) rfl flX7_judge_185 dX7_judge_50 ?_
    refine z_iconst hx hb dX7_judge_53 ?_
    obtain ⟨h8, hF⟩ := zg_e hF
    refine z_icmp_eq (tgt := 69) hx hb h8 (by decide) dX7_judge_54 (by decide) (fun hc => ?_) (fun hc => ?_)
    · have hF := zi_t hF hc
      exact J69 hf0 x2 v7 M0 hF _ _ _ hH (lv_sub hl [1, 2, 3, 0] rfl)
    · have hF := zi_f hF hc
      refine lv_iload_n hx hb dX7_judge_57 rfl (lv_at hl 2 rfl) ?_
      obtain ⟨h26, hF⟩ := zg_e hF
      refine z_if_lt (tgt := 69) hx hb h26 dX7_judge_58 (by decide) (fun hc => ?_) (fun hc => ?_)
      · have hF := zi_t hF hc
        exact J69 hf0 x2 v7 M0 hF _ _ _ hH (lv_sub hl [1, 2, 3, 0] rfl)
      · have hF := zi_f hF hc
        refine lv_iload_n hx hb dX7_judge_61 rfl (lv_at hl 2 rfl) ?_
        refine lv_aload_n hx hb dX7_judge_62 rfl (lv_at hl 3 rfl) ?_
        refine z_geti hX hH (71 + 2 * a1.toNat) 2 (fm_LX_71_0 κ a1.toNat hf0) rfl flX7_judge_188 dX7_judge_63 ?_
        obtain ⟨h27, hF⟩ := zg_e hF
        refine z_icmp_le (tgt := 73) hx hb h26 h27 dX7_judge_66 (by decide) (fun hc => ?_) (fun hc => ?_)
        · have hF := zi_t hF hc
          refine lv_aload_n hx hb dX7_judge_73 rfl (lv_at hl 3 rfl) ?_
          refine z_geti hX hH (71 + 2 * a1.toNat) 2 (fm_LX_71_0 κ a1.toNat hf0) rfl flX7_judge_188 dX7_judge_74 ?_
          refine lv_iload_n hx hb dX7_judge_77 rfl (lv_at hl 2 rfl) ?_
          refine z_isub hx hb dX7_judge_78 ?_
          exact J79 hf0 x2 v7 ((M0 (71 + 2 * a1.toNat) 2) - x2) M0 hF _ _ _ hH (lv_sub hl [1, 2, 3, 0] rfl)
        · have hF := zi_f hF hc
          exact J69 hf0 x2 v7 M0 hF _ _ _ hH (lv_sub hl [1, 2, 3, 0] rfl)
  have hl : lv_has ls 8 [(0, .ref (α 0)), (1, .int (nZ a1)), (2, .int (nZ a2))] := hl
  unfold fX7_judge at hF
  refine lv_iload_n hx hb dX7_judge_0 rfl (lv_at hl 1 rfl) ?_
  obtain ⟨r1, c2, hF⟩ := zc_e hF
  refine z_callSi (As := [.int (nZ a1)]) (is := []) (Ll := []) hX hH rfl (ctX7_isTape l D cs (zsb [] α) N (zpk [] M) a1 r1 c2) (va_cwS 1 hts gX7_judge_X7_isTape rfl rfl rfl (by decide +kernel) ⟨Nat.le_of_ble_eq_true rfl, Nat.le_of_ble_eq_true rfl⟩) rfl hl.1 (Nat.le_of_ble_eq_true rfl) rfl dX7_judge_1 ⟨Nat.zero_le _, Nat.zero_le _⟩ (fun H locs hH => ?_)
  have hH : zH D cs (LX κ) α M (zA (LX κ).length α) s H locs := hH
  obtain ⟨h3, hF⟩ := zg_e hF
  refine z_if_ne (tgt := 9) hx hb h3 dX7_judge_4 (by decide) (fun hc => ?_) (fun hc => ?_)
  · have hF := zi_f hF hc
    refine lv_aload_n hx hb dX7_judge_9 rfl (lv_at hl 0 rfl) ?_
    refine z_getr hX hH 0 6 70 rfl rfl flX7_judge_36 dX7_judge_10 ?_
    refine lv_iload_n hx hb dX7_judge_13 rfl (lv_at hl 1 rfl) ?_
    obtain ⟨h4, hF⟩ := zg_e hF
    have h5 : a1.toNat < 6 := by have := h4.1; have := h4.2; omega
    refine z_aald (ts := [71, 73, 75, 77, 79, 81]) hX hH 70 2 (71 + 2 * a1.toNat) rfl rfl rfl h4 (by decide) (ra_LX_71 a1.toNat h5) dX7_judge_14 ?_
    refine lv_astore_n (lv' := [(3, .ref (α (71 + 2 * a1.toNat))), (0, .ref (α 0)), (1, .int (nZ a1)), (2, .int (nZ a2))]) hx hb dX7_judge_15 rfl hl (by decide) rfl (fun ls hl => ?_)
    refine lv_aload_n hx hb dX7_judge_16 rfl (lv_at hl 0 rfl) ?_
    refine z_geti hX hH (71 + 2 * a1.toNat) 1 (fm_LX_71_0 κ a1.toNat h5) rfl flX7_judge_185 dX7_judge_17 ?_
    refine z_iconst hx hb dX7_judge_20 ?_
    obtain ⟨h6, hF⟩ := zg_e hF
    refine z_icmp_eq (tgt := 35) hx hb h6 (by decide) dX7_judge_21 (by decide) (fun hc => ?_) (fun hc => ?_)
    · have hF := zi_t hF hc
      exact J35 h5 a2 M hF _ _ _ hH (lv_sub hl [1, 3, 0] rfl)
    · have hF := zi_f hF hc
      refine lv_aload_n hx hb dX7_judge_24 rfl (lv_at hl 0 rfl) ?_
      refine z_geti hX hH (71 + 2 * a1.toNat) 1 (fm_LX_71_0 κ a1.toNat h5) rfl flX7_judge_185 dX7_judge_25 ?_
      refine z_iconst hx hb dX7_judge_28 ?_
      refine z_icmp_eq (tgt := 35) hx hb h6 (by decide) dX7_judge_29 (by decide) (fun hc => ?_) (fun hc => ?_)
      · have hF := zi_t hF hc
        exact J35 h5 a2 M hF _ _ _ hH (lv_sub hl [1, 3, 0] rfl)
      · have hF := zi_f hF hc
        refine z_bipush (v := -12) hx hb dX7_judge_32 (by decide +kernel) ?_
        exact z_iret hX hr hlocks hH hF rfl dX7_judge_34
  · have hF := zi_t hF hc
    refine z_iconst hx hb dX7_judge_7 ?_
    exact z_iret hX hr hlocks hH hF rfl dX7_judge_8
theorem flX7_image_193 : zF RX7 wsX7_image 193 7 2 := ⟨_, TX7, _, rfl, by decide +kernel, by decide +kernel, by decide, rfl⟩
theorem flX7_image_14 : zF RX7 wsX7_image 14 7 0 := ⟨_, TX7, _, rfl, by decide +kernel, by decide +kernel, by decide, rfl⟩
theorem em_LXt_is_83n21_1n21 : zemb (LX true) LSt2 is_83n21_1n21 = true := by decide +kernel
theorem em_LXt_is_1n21 : zemb (LX true) LSt is_1n21 = true := by decide +kernel
set_option maxHeartbeats 4000000 in
set_option maxRecDepth 100000 in
theorem ctX7_image_t (l : Launch) (D : va_G) (cs : Nat → ClassId) (α : Nat → Nat) (N : Nat) (M : zM) (r : Int) (M' : zM) (hF : fX7_image_t N M = some (r, M')) : Met l yX7_image wsX7_image ({ frames := 3, cells := 0, slots := 0, locals := 83 }) (zPre D cs (LX true) α M [.ref (α 0)]) (zQi D cs (LX true) α r M') 0 0 (zA (LX true).length α) := by
  refine z_met (cc := cX7_image) (maxL := 1) (ret := (some .int)) (by decide +kernel) rfl RX7 rfl (Nat.le_of_ble_eq_true rfl) ?_
  intro p e s m below meth c ls hX hr hlocks hH hl
  have hx := hX.1.1
  have hb := hX.1.2.1
  have hts := hX.1.2.2.2.2
  have J18 : ∀ (M0 : zM), sX7_image_t_18 N M0 = some (r, M') → zGo p l e (headSpec wsX7_image ({ frames := 3, cells := 0, slots := 0, locals := 83 })).room s m ([.ref (α 0)] : List Value).toArray below meth c (MQ below (zQi D cs (LX true) α r M') ([.ref (α 0)] : List Value).toArray s 0 0 (zA (LX true).length α)) D cs (LX true) α (zA (LX true).length α) 1 18 [(0, .ref (α 0))] [] M0 := by
    intro M0 hF H locs ls hH hl
    unfold sX7_image_t_18 at hF
    refine lv_aload_n hx hb dX7_image_18 rfl (lv_at hl 0 rfl) ?_
    refine z_getr hX hH 0 2 83 rfl rfl flX7_image_193 dX7_image_19 ?_
    refine lv_aload_n hx hb dX7_image_22 rfl (lv_at hl 0 rfl) ?_
    refine z_getr hX hH 0 0 1 rfl rfl flX7_image_14 dX7_image_23 ?_
    obtain ⟨M2, c1, hF⟩ := zc_e hF
    obtain ⟨M3, eM3, hF⟩ := zl_e hF
    refine z_callVv (As := [.ref (α 1)]) hX hH 83 3 em_LXt_is_83n21_1n21 (ctX3_copyFrom l D cs (zsb is_83n21_1n21 α) N (zpk is_83n21_1n21 M0)  M2 c1) (cwV 1 hts gX7_image_X3_copyFrom rfl rfl rfl (by decide +kernel) ⟨Nat.le_of_ble_eq_true rfl, Nat.le_of_ble_eq_true rfl⟩) rfl rfl rfl hl.1 (Nat.le_of_ble_eq_true rfl) rfl dX7_image_26 ⟨Nat.zero_le _, Nat.zero_le _⟩ (fun H locs hH => ?_)
    rw [← eM3] at hH
    refine lv_aload_n hx hb dX7_image_29 rfl (lv_at hl 0 rfl) ?_
    refine z_getr hX hH 0 0 1 rfl rfl flX7_image_14 dX7_image_30 ?_
    obtain ⟨r6, M5, c4, hF⟩ := zc2_e hF
    obtain ⟨M7, eM7, hF⟩ := zl_e hF
    refine z_callVi (As := []) hX hH 1 3 em_LXt_is_1n21 (ctX3_thingCount l D cs (zsb is_1n21 α) N (zpk is_1n21 M3)  r6 M5 c4) (cwV 0 hts gX7_image_X3_thingCount rfl rfl rfl (by decide +kernel) ⟨Nat.le_of_ble_eq_true rfl, Nat.le_of_ble_eq_true rfl⟩) rfl rfl rfl hl.1 (Nat.le_of_ble_eq_true rfl) rfl dX7_image_33 ⟨Nat.zero_le _, Nat.zero_le _⟩ (fun H locs hH => ?_)
    rw [← eM7] at hH
    exact z_iret hX hr hlocks hH hF rfl dX7_image_36
  have hl : lv_has ls 1 [(0, .ref (α 0))] := hl
  unfold fX7_image_t at hF
  refine lv_aload_n hx hb dX7_image_0 rfl (lv_at hl 0 rfl) ?_
  refine z_getr hX hH 0 2 83 rfl rfl flX7_image_193 dX7_image_1 ?_
  refine lv_ifnonnull (tgt := 18) hx hb dX7_image_4 (by decide) ?_
  exact J18 M hF _ _ _ hH (lv_sub hl [0] rfl)
theorem flX7_undo_193 : zF RX7 wsX7_undo 193 7 2 := ⟨_, TX7, _, rfl, by decide +kernel, by decide +kernel, by decide, rfl⟩
set_option maxHeartbeats 4000000 in
set_option maxRecDepth 100000 in
theorem ctX7_undo_f (l : Launch) (D : va_G) (cs : Nat → ClassId) (α : Nat → Nat) (N : Nat) (M : zM) (r : Int) (M' : zM) (hF : fX7_undo_f N M = some (r, M')) : Met l yX7_undo wsX7_undo ({ frames := 0, cells := 0, slots := 0, locals := 0 }) (zPre D cs (LX false) α M [.ref (α 0)]) (zQi D cs (LX false) α r M') 0 0 (zA (LX false).length α) := by
  refine z_met (cc := cX7_undo) (maxL := 1) (ret := (some .int)) (by decide +kernel) rfl RX7 rfl (Nat.le_of_ble_eq_true rfl) ?_
  intro p e s m below meth c ls hX hr hlocks hH hl
  have hx := hX.1.1
  have hb := hX.1.2.1
  have hts := hX.1.2.2.2.2
  have hl : lv_has ls 1 [(0, .ref (α 0))] := hl
  unfold fX7_undo_f at hF
  refine lv_aload_n hx hb dX7_undo_0 rfl (lv_at hl 0 rfl) ?_
  refine z_getn hX hH 0 2 rfl rfl flX7_undo_193 dX7_undo_1 ?_
  refine lv_ifnonnullN hx hb dX7_undo_4 ?_
  refine z_bipush (v := -3) hx hb dX7_undo_7 (by decide +kernel) ?_
  exact z_iret hX hr hlocks hH hF rfl dX7_undo_9
theorem flX7_undo_14 : zF RX7 wsX7_undo 14 7 0 := ⟨_, TX7, _, rfl, by decide +kernel, by decide +kernel, by decide, rfl⟩
theorem em_LXt_is_1n21_83n21 : zemb (LX true) LSt2 is_1n21_83n21 = true := by decide +kernel
set_option maxHeartbeats 4000000 in
set_option maxRecDepth 100000 in
theorem ctX7_undo_t (l : Launch) (D : va_G) (cs : Nat → ClassId) (α : Nat → Nat) (N : Nat) (M : zM) (r : Int) (M' : zM) (hF : fX7_undo_t N M = some (r, M')) : Met l yX7_undo wsX7_undo ({ frames := 3, cells := 0, slots := 0, locals := 83 }) (zPre D cs (LX true) α M [.ref (α 0)]) (zQi D cs (LX true) α r M') 0 0 (zA (LX true).length α) := by
  refine z_met (cc := cX7_undo) (maxL := 1) (ret := (some .int)) (by decide +kernel) rfl RX7 rfl (Nat.le_of_ble_eq_true rfl) ?_
  intro p e s m below meth c ls hX hr hlocks hH hl
  have hx := hX.1.1
  have hb := hX.1.2.1
  have hts := hX.1.2.2.2.2
  have hl : lv_has ls 1 [(0, .ref (α 0))] := hl
  unfold fX7_undo_t at hF
  refine lv_aload_n hx hb dX7_undo_0 rfl (lv_at hl 0 rfl) ?_
  refine z_getr hX hH 0 2 83 rfl rfl flX7_undo_193 dX7_undo_1 ?_
  refine lv_ifnonnull (tgt := 10) hx hb dX7_undo_4 (by decide) ?_
  refine lv_aload_n hx hb dX7_undo_10 rfl (lv_at hl 0 rfl) ?_
  refine z_getr hX hH 0 0 1 rfl rfl flX7_undo_14 dX7_undo_11 ?_
  refine lv_aload_n hx hb dX7_undo_14 rfl (lv_at hl 0 rfl) ?_
  refine z_getr hX hH 0 2 83 rfl rfl flX7_undo_193 dX7_undo_15 ?_
  obtain ⟨M2, c1, hF⟩ := zc_e hF
  obtain ⟨M3, eM3, hF⟩ := zl_e hF
  refine z_callVv (As := [.ref (α 83)]) hX hH 1 3 em_LXt_is_1n21_83n21 (ctX3_copyFrom l D cs (zsb is_1n21_83n21 α) N (zpk is_1n21_83n21 M)  M2 c1) (cwV 1 hts gX7_undo_X3_copyFrom rfl rfl rfl (by decide +kernel) ⟨Nat.le_of_ble_eq_true rfl, Nat.le_of_ble_eq_true rfl⟩) rfl rfl rfl hl.1 (Nat.le_of_ble_eq_true rfl) rfl dX7_undo_18 ⟨Nat.zero_le _, Nat.zero_le _⟩ (fun H locs hH => ?_)
  rw [← eM3] at hH
  refine lv_aload_n hx hb dX7_undo_21 rfl (lv_at hl 0 rfl) ?_
  refine z_getr hX hH 0 0 1 rfl rfl flX7_undo_14 dX7_undo_22 ?_
  obtain ⟨r6, M5, c4, hF⟩ := zc2_e hF
  obtain ⟨M7, eM7, hF⟩ := zl_e hF
  refine z_callVi (As := []) hX hH 1 3 em_LXt_is_1n21 (ctX3_thingCount l D cs (zsb is_1n21 α) N (zpk is_1n21 M3)  r6 M5 c4) (cwV 0 hts gX7_undo_X3_thingCount rfl rfl rfl (by decide +kernel) ⟨Nat.le_of_ble_eq_true rfl, Nat.le_of_ble_eq_true rfl⟩) rfl rfl rfl hl.1 (Nat.le_of_ble_eq_true rfl) rfl dX7_undo_25 ⟨Nat.zero_le _, Nat.zero_le _⟩ (fun H locs hH => ?_)
  rw [← eM7] at hH
  exact z_iret hX hr hlocks hH hF rfl dX7_undo_28
theorem flX7_count_14 : zF RX7 wsX7_count 14 7 0 := ⟨_, TX7, _, rfl, by decide +kernel, by decide +kernel, by decide, rfl⟩
theorem flX7_count_62 : zF RX7 wsX7_count 62 3 2 := ⟨_, TX3, _, rfl, by decide +kernel, by decide +kernel, by decide, rfl⟩
theorem flX7_count_154 : zF RX7 wsX7_count 154 2 0 := ⟨_, TX2, _, rfl, by decide +kernel, by decide +kernel, by decide, rfl⟩
theorem flX7_count_130 : zF RX7 wsX7_count 130 7 5 := ⟨_, TX7, _, rfl, by decide +kernel, by decide +kernel, by decide, rfl⟩
theorem flX7_count_167 : zF RX7 wsX7_count 167 3 5 := ⟨_, TX3, _, rfl, by decide +kernel, by decide +kernel, by decide, rfl⟩
theorem flX7_count_171 : zF RX7 wsX7_count 171 0 2 := ⟨_, TX0, _, rfl, by decide +kernel, by decide +kernel, by decide, rfl⟩
theorem flX7_count_24 : zF RX7 wsX7_count 24 7 3 := ⟨_, TX7, _, rfl, by decide +kernel, by decide +kernel, by decide, rfl⟩
theorem flX7_count_124 : zF RX7 wsX7_count 124 5 1 := ⟨_, TX5, _, rfl, by decide +kernel, by decide +kernel, by decide, rfl⟩
set_option maxHeartbeats 4000000 in
set_option maxRecDepth 100000 in
theorem ctX7_count (l : Launch) (κ : Bool) (D : va_G) (cs : Nat → ClassId) (α : Nat → Nat) (N : Nat) (M : zM) (a1 : Int) (r : Int) (M' : zM) (hF : fX7_count N a1 M = some (r, M')) : Met l yX7_count wsX7_count ({ frames := 0, cells := 0, slots := 0, locals := 0 }) (zPre D cs (LX κ) α M [.ref (α 0), .int (nZ a1)]) (zQi D cs (LX κ) α r M') 0 0 (zA (LX κ).length α) := by
  refine z_met (cc := cX7_count) (maxL := 2) (ret := (some .int)) (by decide +kernel) rfl RX7 rfl (Nat.le_of_ble_eq_true rfl) ?_
  intro p e s m below meth c ls hX hr hlocks hH hl
  have hx := hX.1.1
  have hb := hX.1.2.1
  have hts := hX.1.2.2.2.2
  have J44 : ∀ (x1 : Int) (M0 : zM), sX7_count_44 N x1 M0 = some (r, M') → zGo p l e (headSpec wsX7_count ({ frames := 0, cells := 0, slots := 0, locals := 0 })).room s m ([.ref (α 0), .int (nZ a1)] : List Value).toArray below meth c (MQ below (zQi D cs (LX κ) α r M') ([.ref (α 0), .int (nZ a1)] : List Value).toArray s 0 0 (zA (LX κ).length α)) D cs (LX κ) α (zA (LX κ).length α) 2 44 [(0, .ref (α 0)), (1, .int (nZ x1))] [] M0 := by
    intro x1 M0 hF H locs ls hH hl
    unfold sX7_count_44 at hF
    refine lv_aload_n hx hb dX7_count_44 rfl (lv_at hl 0 rfl) ?_
    refine z_getr hX hH 0 0 1 rfl rfl flX7_count_14 dX7_count_45 ?_
    refine z_getr hX hH 1 2 4 rfl rfl flX7_count_62 dX7_count_48 ?_
    refine z_getr hX hH 4 0 5 rfl rfl flX7_count_154 dX7_count_51 ?_
    refine lv_iload_n hx hb dX7_count_54 rfl (lv_at hl 1 rfl) ?_
    refine z_iconst hx hb dX7_count_55 ?_
    refine z_iadd hx hb dX7_count_56 ?_
    obtain ⟨h2, hF⟩ := zg_e hF
    refine z_iald hX hH 5 5 rfl h2 (by decide) dX7_count_57 ?_
    exact z_iret hX hr hlocks hH hF rfl dX7_count_58
  have hl : lv_has ls 2 [(0, .ref (α 0)), (1, .int (nZ a1))] := hl
  unfold fX7_count at hF
  refine lv_iload_n hx hb dX7_count_0 rfl (lv_at hl 1 rfl) ?_
  obtain ⟨h1, hF⟩ := zg_e hF
  by_cases hc : a1 < (0:Int) ∨ (6:Int) < a1
  · have hF := zi_t hF hc
    refine z_tableOut (tgt := 83) hx hb h1 hc dX7_count_1 (by decide) ?_
    refine z_bipush (v := -2) hx hb dX7_count_83 (by decide +kernel) ?_
    exact z_iret hX hr hlocks hH hF rfl dX7_count_85
  have hF := zi_f hF hc
  by_cases hc : a1 = (0:Int)
  · have hF := zi_t hF hc
    refine z_tableIn (tgt := 44) (v := 0) hx hb hc (by decide) dX7_count_1 (by decide +kernel) (by decide +kernel) rfl (by decide) ?_
    exact J44 a1 M hF _ _ _ hH (lv_sub hl [0, 1] rfl)
  have hF := zi_f hF hc
  by_cases hc : a1 = (1:Int)
  · have hF := zi_t hF hc
    refine z_tableIn (tgt := 44) (v := 1) hx hb hc (by decide) dX7_count_1 (by decide +kernel) (by decide +kernel) rfl (by decide) ?_
    exact J44 a1 M hF _ _ _ hH (lv_sub hl [0, 1] rfl)
  have hF := zi_f hF hc
  by_cases hc : a1 = (2:Int)
  · have hF := zi_t hF hc
    refine z_tableIn (tgt := 44) (v := 2) hx hb hc (by decide) dX7_count_1 (by decide +kernel) (by decide +kernel) rfl (by decide) ?_
    exact J44 a1 M hF _ _ _ hH (lv_sub hl [0, 1] rfl)
  have hF := zi_f hF hc
  by_cases hc : a1 = (3:Int)
  · have hF := zi_t hF hc
    refine z_tableIn (tgt := 44) (v := 3) hx hb hc (by decide) dX7_count_1 (by decide +kernel) (by decide +kernel) rfl (by decide) ?_
    exact J44 a1 M hF _ _ _ hH (lv_sub hl [0, 1] rfl)
  have hF := zi_f hF hc
  by_cases hc : a1 = (4:Int)
  · have hF := zi_t hF hc
    refine z_tableIn (tgt := 59) (v := 4) hx hb hc (by decide) dX7_count_1 (by decide +kernel) (by decide +kernel) rfl (by decide) ?_
    refine lv_aload_n hx hb dX7_count_59 rfl (lv_at hl 0 rfl) ?_
    refine z_geti hX hH 0 5 rfl rfl flX7_count_130 dX7_count_60 ?_
    exact z_iret hX hr hlocks hH hF rfl dX7_count_63
  have hF := zi_f hF hc
  by_cases hc : a1 = (5:Int)
  · have hF := zi_t hF hc
    refine z_tableIn (tgt := 64) (v := 5) hx hb hc (by decide) dX7_count_1 (by decide +kernel) (by decide +kernel) rfl (by decide) ?_
    refine lv_aload_n hx hb dX7_count_64 rfl (lv_at hl 0 rfl) ?_
    refine z_getr hX hH 0 0 1 rfl rfl flX7_count_14 dX7_count_65 ?_
    refine z_getr hX hH 1 5 19 rfl rfl flX7_count_167 dX7_count_68 ?_
    refine z_geti hX hH 19 2 rfl rfl flX7_count_171 dX7_count_71 ?_
    exact z_iret hX hr hlocks hH hF rfl dX7_count_74
  have hF := zi_f hF hc
  by_cases hc : a1 = (6:Int)
  · have hF := zi_t hF hc
    refine z_tableIn (tgt := 75) (v := 6) hx hb hc (by decide) dX7_count_1 (by decide +kernel) (by decide +kernel) rfl (by decide) ?_
    refine lv_aload_n hx hb dX7_count_75 rfl (lv_at hl 0 rfl) ?_
    refine z_getr hX hH 0 3 43 rfl rfl flX7_count_24 dX7_count_76 ?_
    refine z_geti hX hH 43 1 rfl rfl flX7_count_124 dX7_count_79 ?_
    exact z_iret hX hr hlocks hH hF rfl dX7_count_82
  have hF := zi_f hF hc
  cases hF
theorem flX7_tape_36 : zF RX7 wsX7_tape 36 7 6 := ⟨_, TX7, _, rfl, by decide +kernel, by decide +kernel, by decide, rfl⟩
theorem em_LX_is_f71n2 (κ : Bool) : ∀ i : Nat, i < 6 → zemb (LX κ) LTp (is_f71n2 i) = true := fun i h => match i, h with | 0, _ => by cases κ <;> decide +kernel | 1, _ => by cases κ <;> decide +kernel | 2, _ => by cases κ <;> decide +kernel | 3, _ => by cases κ <;> decide +kernel | 4, _ => by cases κ <;> decide +kernel | 5, _ => by cases κ <;> decide +kernel | n + 6, h => absurd h (by omega)
set_option maxHeartbeats 4000000 in
set_option maxRecDepth 100000 in
theorem ctX7_tape (l : Launch) (κ : Bool) (D : va_G) (cs : Nat → ClassId) (α : Nat → Nat) (N : Nat) (M : zM) (a1 : Int) (a2 : Int) (a3 : Int) (r : Int) (M' : zM) (hF : fX7_tape N a1 a2 a3 M = some (r, M')) : Met l yX7_tape wsX7_tape ({ frames := 1, cells := 0, slots := 0, locals := 23 }) (zPre D cs (LX κ) α M [.ref (α 0), .int (nZ a1), .int (nZ a2), .int (nZ a3)]) (zQi D cs (LX κ) α r M') 0 0 (zA (LX κ).length α) := by
  refine z_met (cc := cX7_tape) (maxL := 4) (ret := (some .int)) (by decide +kernel) rfl RX7 rfl (Nat.le_of_ble_eq_true rfl) ?_
  intro p e s m below meth c ls hX hr hlocks hH hl
  have hx := hX.1.1
  have hb := hX.1.2.1
  have hts := hX.1.2.2.2.2
  have hl : lv_has ls 4 [(0, .ref (α 0)), (1, .int (nZ a1)), (2, .int (nZ a2)), (3, .int (nZ a3))] := hl
  unfold fX7_tape at hF
  refine lv_iload_n hx hb dX7_tape_0 rfl (lv_at hl 1 rfl) ?_
  obtain ⟨r1, c2, hF⟩ := zc_e hF
  refine z_callSi (As := [.int (nZ a1)]) (is := []) (Ll := []) hX hH rfl (ctX7_isTape l D cs (zsb [] α) N (zpk [] M) a1 r1 c2) (va_cwS 1 hts gX7_tape_X7_isTape rfl rfl rfl (by decide +kernel) ⟨Nat.le_of_ble_eq_true rfl, Nat.le_of_ble_eq_true rfl⟩) rfl hl.1 (Nat.le_of_ble_eq_true rfl) rfl dX7_tape_1 ⟨Nat.zero_le _, Nat.zero_le _⟩ (fun H locs hH => ?_)
  have hH : zH D cs (LX κ) α M (zA (LX κ).length α) s H locs := hH
  obtain ⟨h3, hF⟩ := zg_e hF
  refine z_if_ne (tgt := 9) hx hb h3 dX7_tape_4 (by decide) (fun hc => ?_) (fun hc => ?_)
  · have hF := zi_f hF hc
    refine lv_iload_n hx hb dX7_tape_9 rfl (lv_at hl 2 rfl) ?_
    refine z_iconst hx hb dX7_tape_10 ?_
    obtain ⟨h4, hF⟩ := zg_e hF
    refine z_icmp_lt (tgt := 19) hx hb h4 (by decide) dX7_tape_11 (by decide) (fun hc => ?_) (fun hc => ?_)
    · have hF := zi_t hF hc
      refine z_bipush (v := -2) hx hb dX7_tape_19 (by decide +kernel) ?_
      exact z_iret hX hr hlocks hH hF rfl dX7_tape_21
    · have hF := zi_f hF hc
      refine lv_iload_n hx hb dX7_tape_14 rfl (lv_at hl 2 rfl) ?_
      refine z_iconst hx hb dX7_tape_15 ?_
      refine z_icmp_le (tgt := 22) hx hb h4 (by decide) dX7_tape_16 (by decide) (fun hc => ?_) (fun hc => ?_)
      · have hF := zi_t hF hc
        refine lv_iload_n hx hb dX7_tape_22 rfl (lv_at hl 2 rfl) ?_
        refine z_iconst hx hb dX7_tape_23 ?_
        refine z_icmp_ne (tgt := 40) hx hb h4 (by decide) dX7_tape_24 (by decide) (fun hc => ?_) (fun hc => ?_)
        · have hF := zi_f hF hc
          refine lv_iload_n hx hb dX7_tape_40 rfl (lv_at hl 3 rfl) ?_
          refine z_bipush (v := 60) hx hb dX7_tape_41 (by decide +kernel) ?_
          obtain ⟨h5, hF⟩ := zg_e hF
          refine z_icmp_le (tgt := 49) hx hb h5 (by decide) dX7_tape_43 (by decide) (fun hc => ?_) (fun hc => ?_)
          · have hF := zi_t hF hc
            refine lv_iload_n hx hb dX7_tape_49 rfl (lv_at hl 3 rfl) ?_
            refine z_if_ge (tgt := 56) hx hb h5 dX7_tape_50 (by decide) (fun hc => ?_) (fun hc => ?_)
            · have hF := zi_t hF hc
              refine lv_aload_n hx hb dX7_tape_56 rfl (lv_at hl 0 rfl) ?_
              refine z_getr hX hH 0 6 70 rfl rfl flX7_tape_36 dX7_tape_57 ?_
              refine lv_iload_n hx hb dX7_tape_60 rfl (lv_at hl 1 rfl) ?_
              obtain ⟨h6, hF⟩ := zg_e hF
              have h7 : a1.toNat < 6 := by have := h6.1; have := h6.2; omega
              refine z_aald (ts := [71, 73, 75, 77, 79, 81]) hX hH 70 2 (71 + 2 * a1.toNat) rfl rfl rfl h6 (by decide) (ra_LX_71 a1.toNat h7) dX7_tape_61 ?_
              refine lv_iload_n hx hb dX7_tape_62 rfl (lv_at hl 2 rfl) ?_
              refine lv_iload_n hx hb dX7_tape_63 rfl (lv_at hl 3 rfl) ?_
              obtain ⟨M9, c8, hF⟩ := zc_e hF
              obtain ⟨M10, eM10, hF⟩ := zl_e hF
              refine z_callVv (As := [.int (nZ a2), .int (nZ a3)]) hX hH (71 + 2 * a1.toNat) 4 (em_LX_is_f71n2 κ a1.toNat h7) (ctX4_become l D cs (zsb (is_f71n2 a1.toNat) α) N (zpk (is_f71n2 a1.toNat) M) a2 a3 M9 c8) (cwV 2 hts gX7_tape_X4_become rfl rfl rfl (by decide +kernel) ⟨Nat.le_of_ble_eq_true rfl, Nat.le_of_ble_eq_true rfl⟩) (fm_LX_71_0 κ a1.toNat h7) rfl rfl hl.1 (Nat.le_of_ble_eq_true rfl) rfl dX7_tape_64 ⟨Nat.zero_le _, Nat.zero_le _⟩ (fun H locs hH => ?_)
              rw [← eM10] at hH
              refine z_iconst hx hb dX7_tape_67 ?_
              exact z_iret hX hr hlocks hH hF rfl dX7_tape_68
            · have hF := zi_f hF hc
              refine z_bipush (v := -14) hx hb dX7_tape_53 (by decide +kernel) ?_
              exact z_iret hX hr hlocks hH hF rfl dX7_tape_55
          · have hF := zi_f hF hc
            refine z_bipush (v := -2) hx hb dX7_tape_46 (by decide +kernel) ?_
            exact z_iret hX hr hlocks hH hF rfl dX7_tape_48
        · have hF := zi_t hF hc
          refine lv_aload_n hx hb dX7_tape_27 rfl (lv_at hl 0 rfl) ?_
          refine z_getr hX hH 0 6 70 rfl rfl flX7_tape_36 dX7_tape_28 ?_
          refine lv_iload_n hx hb dX7_tape_31 rfl (lv_at hl 1 rfl) ?_
          obtain ⟨h11, hF⟩ := zg_e hF
          have h12 : a1.toNat < 6 := by have := h11.1; have := h11.2; omega
          refine z_aald (ts := [71, 73, 75, 77, 79, 81]) hX hH 70 2 (71 + 2 * a1.toNat) rfl rfl rfl h11 (by decide) (ra_LX_71 a1.toNat h12) dX7_tape_32 ?_
          refine z_iconst hx hb dX7_tape_33 ?_
          refine z_iconst hx hb dX7_tape_34 ?_
          obtain ⟨M14, c13, hF⟩ := zc_e hF
          obtain ⟨M15, eM15, hF⟩ := zl_e hF
          refine z_callVv (As := [.int (nZ (-1:Int)), .int (nZ (0:Int))]) hX hH (71 + 2 * a1.toNat) 4 (em_LX_is_f71n2 κ a1.toNat h12) (ctX4_become l D cs (zsb (is_f71n2 a1.toNat) α) N (zpk (is_f71n2 a1.toNat) M) (-1:Int) (0:Int) M14 c13) (cwV 2 hts gX7_tape_X4_become rfl rfl rfl (by decide +kernel) ⟨Nat.le_of_ble_eq_true rfl, Nat.le_of_ble_eq_true rfl⟩) (fm_LX_71_0 κ a1.toNat h12) rfl rfl hl.1 (Nat.le_of_ble_eq_true rfl) rfl dX7_tape_35 ⟨Nat.zero_le _, Nat.zero_le _⟩ (fun H locs hH => ?_)
          rw [← eM15] at hH
          refine z_iconst hx hb dX7_tape_38 ?_
          exact z_iret hX hr hlocks hH hF rfl dX7_tape_39
      · have hF := zi_f hF hc
        refine z_bipush (v := -2) hx hb dX7_tape_19 (by decide +kernel) ?_
        exact z_iret hX hr hlocks hH hF rfl dX7_tape_21
  · have hF := zi_t hF hc
    refine z_iconst hx hb dX7_tape_7 ?_
    exact z_iret hX hr hlocks hH hF rfl dX7_tape_8
theorem flX7_item_36 : zF RX7 wsX7_item 36 7 6 := ⟨_, TX7, _, rfl, by decide +kernel, by decide +kernel, by decide, rfl⟩
theorem flX7_item_185 : zF RX7 wsX7_item 185 4 1 := ⟨_, TX4, _, rfl, by decide +kernel, by decide +kernel, by decide, rfl⟩
theorem flX7_item_188 : zF RX7 wsX7_item 188 4 2 := ⟨_, TX4, _, rfl, by decide +kernel, by decide +kernel, by decide, rfl⟩
theorem flX7_item_189 : zF RX7 wsX7_item 189 4 0 := ⟨_, TX4, _, rfl, by decide +kernel, by decide +kernel, by decide, rfl⟩
set_option maxHeartbeats 4000000 in
set_option maxRecDepth 100000 in
theorem ctX7_item (l : Launch) (κ : Bool) (D : va_G) (cs : Nat → ClassId) (α : Nat → Nat) (N : Nat) (M : zM) (a1 : Int) (a2 : Int) (a3 : Int) (r : Int) (M' : zM) (hF : fX7_item N a1 a2 a3 M = some (r, M')) : Met l yX7_item wsX7_item ({ frames := 1, cells := 0, slots := 0, locals := 22 }) (zPre D cs (LX κ) α M [.ref (α 0), .int (nZ a1), .int (nZ a2), .long (nY a3)]) (zQi D cs (LX κ) α r M') 0 0 (zA (LX κ).length α) := by
  refine z_met (cc := cX7_item) (maxL := 6) (ret := (some .int)) (by decide +kernel) rfl RX7 rfl (Nat.le_of_ble_eq_true rfl) ?_
  intro p e s m below meth c ls hX hr hlocks hH hl
  have hx := hX.1.1
  have hb := hX.1.2.1
  have hts := hX.1.2.2.2.2
  have hl : lv_has ls 6 [(0, .ref (α 0)), (1, .int (nZ a1)), (2, .int (nZ a2)), (3, .long (nY a3))] := hl
  unfold fX7_item at hF
  refine lv_iload_n hx hb dX7_item_0 rfl (lv_at hl 1 rfl) ?_
  obtain ⟨r1, c2, hF⟩ := zc_e hF
  refine z_callSi (As := [.int (nZ a1)]) (is := []) (Ll := []) hX hH rfl (ctX7_isTape l D cs (zsb [] α) N (zpk [] M) a1 r1 c2) (va_cwS 1 hts gX7_item_X7_isTape rfl rfl rfl (by decide +kernel) ⟨Nat.le_of_ble_eq_true rfl, Nat.le_of_ble_eq_true rfl⟩) rfl hl.1 (Nat.le_of_ble_eq_true rfl) rfl dX7_item_1 ⟨Nat.zero_le _, Nat.zero_le _⟩ (fun H locs hH => ?_)
  have hH : zH D cs (LX κ) α M (zA (LX κ).length α) s H locs := hH
  obtain ⟨h3, hF⟩ := zg_e hF
  refine z_if_ne (tgt := 9) hx hb h3 dX7_item_4 (by decide) (fun hc => ?_) (fun hc => ?_)
  · have hF := zi_f hF hc
    refine lv_aload_n hx hb dX7_item_9 rfl (lv_at hl 0 rfl) ?_
    refine z_getr hX hH 0 6 70 rfl rfl flX7_item_36 dX7_item_10 ?_
    refine lv_iload_n hx hb dX7_item_13 rfl (lv_at hl 1 rfl) ?_
    obtain ⟨h4, hF⟩ := zg_e hF
    have h5 : a1.toNat < 6 := by have := h4.1; have := h4.2; omega
    refine z_aald (ts := [71, 73, 75, 77, 79, 81]) hX hH 70 2 (71 + 2 * a1.toNat) rfl rfl rfl h4 (by decide) (ra_LX_71 a1.toNat h5) dX7_item_14 ?_
    refine lv_astore (lv' := [(5, .ref (α (71 + 2 * a1.toNat))), (0, .ref (α 0)), (1, .int (nZ a1)), (2, .int (nZ a2)), (3, .long (nY a3))]) hx hb dX7_item_15 hl (by decide) rfl (fun ls hl => ?_)
    refine lv_aload hx hb dX7_item_17 (lv_at hl 0 rfl) ?_
    refine z_geti hX hH (71 + 2 * a1.toNat) 1 (fm_LX_71_0 κ a1.toNat h5) rfl flX7_item_185 dX7_item_19 ?_
    refine z_iconst hx hb dX7_item_22 ?_
    obtain ⟨h6, hF⟩ := zg_e hF
    refine z_icmp_ne (tgt := 29) hx hb h6 (by decide) dX7_item_23 (by decide) (fun hc => ?_) (fun hc => ?_)
    · have hF := zi_f hF hc
      refine lv_iload_n hx hb dX7_item_29 rfl (lv_at hl 3 rfl) ?_
      obtain ⟨h7, hF⟩ := zg_e hF
      refine z_if_lt (tgt := 42) hx hb h7 dX7_item_30 (by decide) (fun hc => ?_) (fun hc => ?_)
      · have hF := zi_t hF hc
        refine z_bipush (v := -13) hx hb dX7_item_42 (by decide +kernel) ?_
        exact z_iret hX hr hlocks hH hF rfl dX7_item_44
      · have hF := zi_f hF hc
        refine lv_iload_n hx hb dX7_item_33 rfl (lv_at hl 3 rfl) ?_
        refine lv_aload hx hb dX7_item_34 (lv_at hl 0 rfl) ?_
        refine z_geti hX hH (71 + 2 * a1.toNat) 2 (fm_LX_71_0 κ a1.toNat h5) rfl flX7_item_188 dX7_item_36 ?_
        obtain ⟨h8, hF⟩ := zg_e hF
        refine z_icmp_lt (tgt := 45) hx hb h7 h8 dX7_item_39 (by decide) (fun hc => ?_) (fun hc => ?_)
        · have hF := zi_t hF hc
          refine lv_aload hx hb dX7_item_45 (lv_at hl 0 rfl) ?_
          refine z_getr hX hH (71 + 2 * a1.toNat) 0 (71 + 2 * a1.toNat + 1) (fm_LX_71_0 κ a1.toNat h5) rfl flX7_item_189 dX7_item_47 ?_
          refine lv_iload_n hx hb dX7_item_50 rfl (lv_at hl 3 rfl) ?_
          refine lv_aload hx hb dX7_item_51 (lv_at hl 0 rfl) ?_
          refine lv_lload_n hx hb dX7_item_53 rfl (lv_at hl 4 rfl) ?_
          obtain ⟨r11, M10, c9, hF⟩ := zc2_e hF
          obtain ⟨M12, eM12, hF⟩ := zl_e hF
          refine z_callVl (As := [.long (nY a3)]) hX hH (71 + 2 * a1.toNat) 4 (em_LX_is_f71n2 κ a1.toNat h5) (ctX4_asItem l D cs (zsb (is_f71n2 a1.toNat) α) N (zpk (is_f71n2 a1.toNat) M) a3 r11 M10 c9) (cwV 1 hts gX7_item_X4_asItem rfl rfl rfl (by decide +kernel) ⟨Nat.le_of_ble_eq_true rfl, Nat.le_of_ble_eq_true rfl⟩) (fm_LX_71_0 κ a1.toNat h5) rfl rfl hl.1 (Nat.le_of_ble_eq_true rfl) rfl dX7_item_54 ⟨Nat.zero_le _, Nat.zero_le _⟩ (fun H locs hH => ?_)
          rw [← eM12] at hH
          obtain ⟨h13, hF⟩ := zg_e hF
          obtain ⟨M14, eM14, hF⟩ := zl_e hF
          refine z_last hX hH (71 + 2 * a1.toNat + 1) 60 eM14 (fm_LX_71_1 κ a1.toNat h5) h13 (by decide) dX7_item_57 (fun H locs hH => ?_)
          refine z_iconst hx hb dX7_item_58 ?_
          exact z_iret hX hr hlocks hH hF rfl dX7_item_59
        · have hF := zi_f hF hc
          refine z_bipush (v := -13) hx hb dX7_item_42 (by decide +kernel) ?_
          exact z_iret hX hr hlocks hH hF rfl dX7_item_44
    · have hF := zi_t hF hc
      refine z_bipush (v := -11) hx hb dX7_item_26 (by decide +kernel) ?_
      exact z_iret hX hr hlocks hH hF rfl dX7_item_28
  · have hF := zi_t hF hc
    refine z_iconst hx hb dX7_item_7 ?_
    exact z_iret hX hr hlocks hH hF rfl dX7_item_8
theorem flX7_read_36 : zF RX7 wsX7_read 36 7 6 := ⟨_, TX7, _, rfl, by decide +kernel, by decide +kernel, by decide, rfl⟩
theorem flX7_read_188 : zF RX7 wsX7_read 188 4 2 := ⟨_, TX4, _, rfl, by decide +kernel, by decide +kernel, by decide, rfl⟩
theorem flX7_read_189 : zF RX7 wsX7_read 189 4 0 := ⟨_, TX4, _, rfl, by decide +kernel, by decide +kernel, by decide, rfl⟩
set_option maxHeartbeats 4000000 in
set_option maxRecDepth 100000 in
theorem ctX7_read (l : Launch) (κ : Bool) (D : va_G) (cs : Nat → ClassId) (α : Nat → Nat) (N : Nat) (M : zM) (a1 : Int) (a2 : Int) (r : Int) (M' : zM) (hF : fX7_read N a1 a2 M = some (r, M')) : Met l yX7_read wsX7_read ({ frames := 1, cells := 0, slots := 0, locals := 20 }) (zPre D cs (LX κ) α M [.ref (α 0), .int (nZ a1), .int (nZ a2)]) (zQl D cs (LX κ) α r M') 0 0 (zA (LX κ).length α) := by
  refine z_met (cc := cX7_read) (maxL := 4) (ret := (some .long)) (by decide +kernel) rfl RX7 rfl (Nat.le_of_ble_eq_true rfl) ?_
  intro p e s m below meth c ls hX hr hlocks hH hl
  have hx := hX.1.1
  have hb := hX.1.2.1
  have hts := hX.1.2.2.2.2
  have hl : lv_has ls 4 [(0, .ref (α 0)), (1, .int (nZ a1)), (2, .int (nZ a2))] := hl
  unfold fX7_read at hF
  refine lv_iload_n hx hb dX7_read_0 rfl (lv_at hl 1 rfl) ?_
  obtain ⟨r1, c2, hF⟩ := zc_e hF
  refine z_callSi (As := [.int (nZ a1)]) (is := []) (Ll := []) hX hH rfl (ctX7_isTape l D cs (zsb [] α) N (zpk [] M) a1 r1 c2) (va_cwS 1 hts gX7_read_X7_isTape rfl rfl rfl (by decide +kernel) ⟨Nat.le_of_ble_eq_true rfl, Nat.le_of_ble_eq_true rfl⟩) rfl hl.1 (Nat.le_of_ble_eq_true rfl) rfl dX7_read_1 ⟨Nat.zero_le _, Nat.zero_le _⟩ (fun H locs hH => ?_)
  have hH : zH D cs (LX κ) α M (zA (LX κ).length α) s H locs := hH
  obtain ⟨h3, hF⟩ := zg_e hF
  refine z_if_ne (tgt := 11) hx hb h3 dX7_read_4 (by decide) (fun hc => ?_) (fun hc => ?_)
  · have hF := zi_f hF hc
    refine lv_aload_n hx hb dX7_read_11 rfl (lv_at hl 0 rfl) ?_
    refine z_getr hX hH 0 6 70 rfl rfl flX7_read_36 dX7_read_12 ?_
    refine lv_iload_n hx hb dX7_read_15 rfl (lv_at hl 1 rfl) ?_
    obtain ⟨h4, hF⟩ := zg_e hF
    have h5 : a1.toNat < 6 := by have := h4.1; have := h4.2; omega
    refine z_aald (ts := [71, 73, 75, 77, 79, 81]) hX hH 70 2 (71 + 2 * a1.toNat) rfl rfl rfl h4 (by decide) (ra_LX_71 a1.toNat h5) dX7_read_16 ?_
    refine lv_astore_n (lv' := [(3, .ref (α (71 + 2 * a1.toNat))), (0, .ref (α 0)), (1, .int (nZ a1)), (2, .int (nZ a2))]) hx hb dX7_read_17 rfl hl (by decide) rfl (fun ls hl => ?_)
    refine lv_iload_n hx hb dX7_read_18 rfl (lv_at hl 3 rfl) ?_
    obtain ⟨h6, hF⟩ := zg_e hF
    refine z_if_lt (tgt := 39) hx hb h6 dX7_read_19 (by decide) (fun hc => ?_) (fun hc => ?_)
    · have hF := zi_t hF hc
      refine z_ldc2 (v := (-9223372036854775808:Int)) (n := -9223372036854775808) hx hb hX.1.2.2.2.1 (hts (.constantLong RX7 91 (-9223372036854775808)) (by decide +kernel)) (by decide +kernel) dX7_read_39 ?_
      exact z_lret hX hr hlocks hH hF dX7_read_42
    · have hF := zi_f hF hc
      refine lv_iload_n hx hb dX7_read_22 rfl (lv_at hl 3 rfl) ?_
      refine lv_aload_n hx hb dX7_read_23 rfl (lv_at hl 0 rfl) ?_
      refine z_geti hX hH (71 + 2 * a1.toNat) 2 (fm_LX_71_0 κ a1.toNat h5) rfl flX7_read_188 dX7_read_24 ?_
      obtain ⟨h7, hF⟩ := zg_e hF
      refine z_icmp_ge (tgt := 39) hx hb h6 h7 dX7_read_27 (by decide) (fun hc => ?_) (fun hc => ?_)
      · have hF := zi_t hF hc
        refine z_ldc2 (v := (-9223372036854775808:Int)) (n := -9223372036854775808) hx hb hX.1.2.2.2.1 (hts (.constantLong RX7 91 (-9223372036854775808)) (by decide +kernel)) (by decide +kernel) dX7_read_39 ?_
        exact z_lret hX hr hlocks hH hF dX7_read_42
      · have hF := zi_f hF hc
        refine lv_aload_n hx hb dX7_read_30 rfl (lv_at hl 0 rfl) ?_
        refine z_getr hX hH (71 + 2 * a1.toNat) 0 (71 + 2 * a1.toNat + 1) (fm_LX_71_0 κ a1.toNat h5) rfl flX7_read_189 dX7_read_31 ?_
        refine lv_iload_n hx hb dX7_read_34 rfl (lv_at hl 3 rfl) ?_
        obtain ⟨h8, hF⟩ := zg_e hF
        refine z_lald hX hH (71 + 2 * a1.toNat + 1) 60 (fm_LX_71_1 κ a1.toNat h5) h8 (by decide) dX7_read_35 ?_
        refine lv_goto (tgt := 42) hx hb dX7_read_36 (by decide) ?_
        exact z_lret hX hr hlocks hH hF dX7_read_42
  · have hF := zi_t hF hc
    refine z_ldc2 (v := (-9223372036854775808:Int)) (n := -9223372036854775808) hx hb hX.1.2.2.2.1 (hts (.constantLong RX7 91 (-9223372036854775808)) (by decide +kernel)) (by decide +kernel) dX7_read_7 ?_
    exact z_lret hX hr hlocks hH hF dX7_read_10
theorem flX7_shift_36 : zF RX7 wsX7_shift 36 7 6 := ⟨_, TX7, _, rfl, by decide +kernel, by decide +kernel, by decide, rfl⟩
theorem flX7_shift_185 : zF RX7 wsX7_shift 185 4 1 := ⟨_, TX4, _, rfl, by decide +kernel, by decide +kernel, by decide, rfl⟩
theorem flX7_shift_189 : zF RX7 wsX7_shift 189 4 0 := ⟨_, TX4, _, rfl, by decide +kernel, by decide +kernel, by decide, rfl⟩
set_option maxHeartbeats 4000000 in
set_option maxRecDepth 100000 in
theorem ctX7_shift (l : Launch) (κ : Bool) (D : va_G) (cs : Nat → ClassId) (α : Nat → Nat) (N : Nat) (M : zM) (a1 : Int) (a2 : Int) (a3 : Int) (a4 : Int) (a5 : Int) (r : Int) (M' : zM) (hF : fX7_shift N a1 a2 a3 a4 a5 M = some (r, M')) : Met l yX7_shift wsX7_shift ({ frames := 1, cells := 0, slots := 0, locals := 40 }) (zPre D cs (LX κ) α M [.ref (α 0), .int (nZ a1), .int (nZ a2), .int (nZ a3), .int (nZ a4), .int (nZ a5)]) (zQi D cs (LX κ) α r M') 0 0 (zA (LX κ).length α) := by
  refine z_met (cc := cX7_shift) (maxL := 8) (ret := (some .int)) (by decide +kernel) rfl RX7 rfl (Nat.le_of_ble_eq_true rfl) ?_
  intro p e s m below meth c ls hX hr hlocks hH hl
  have hx := hX.1.1
  have hb := hX.1.2.1
  have hts := hX.1.2.2.2.2
  have hl : lv_has ls 8 [(0, .ref (α 0)), (1, .int (nZ a1)), (2, .int (nZ a2)), (3, .int (nZ a3)), (4, .int (nZ a4)), (5, .int (nZ a5))] := hl
  unfold fX7_shift at hF
  refine lv_iload_n hx hb dX7_shift_0 rfl (lv_at hl 1 rfl) ?_
  obtain ⟨r1, c2, hF⟩ := zc_e hF
  refine z_callSi (As := [.int (nZ a1)]) (is := []) (Ll := []) hX hH rfl (ctX7_isTape l D cs (zsb [] α) N (zpk [] M) a1 r1 c2) (va_cwS 1 hts gX7_shift_X7_isTape rfl rfl rfl (by decide +kernel) ⟨Nat.le_of_ble_eq_true rfl, Nat.le_of_ble_eq_true rfl⟩) rfl hl.1 (Nat.le_of_ble_eq_true rfl) rfl dX7_shift_1 ⟨Nat.zero_le _, Nat.zero_le _⟩ (fun H locs hH => ?_)
  have hH : zH D cs (LX κ) α M (zA (LX κ).length α) s H locs := hH
  obtain ⟨h3, hF⟩ := zg_e hF
  refine z_if_eq (tgt := 14) hx hb h3 dX7_shift_4 (by decide) (fun hc => ?_) (fun hc => ?_)
  · have hF := zi_t hF hc
    refine z_iconst hx hb dX7_shift_14 ?_
    exact z_iret hX hr hlocks hH hF rfl dX7_shift_15
  · have hF := zi_f hF hc
    refine lv_iload_n hx hb dX7_shift_7 rfl (lv_at hl 3 rfl) ?_
    obtain ⟨r4, c5, hF⟩ := zc_e hF
    refine z_callSi (As := [.int (nZ a3)]) (is := []) (Ll := []) hX hH rfl (ctX7_isTape l D cs (zsb [] α) N (zpk [] M) a3 r4 c5) (va_cwS 1 hts gX7_shift_X7_isTape rfl rfl rfl (by decide +kernel) ⟨Nat.le_of_ble_eq_true rfl, Nat.le_of_ble_eq_true rfl⟩) rfl hl.1 (Nat.le_of_ble_eq_true rfl) rfl dX7_shift_8 ⟨Nat.zero_le _, Nat.zero_le _⟩ (fun H locs hH => ?_)
    have hH : zH D cs (LX κ) α M (zA (LX κ).length α) s H locs := hH
    obtain ⟨h6, hF⟩ := zg_e hF
    refine z_if_ne (tgt := 16) hx hb h6 dX7_shift_11 (by decide) (fun hc => ?_) (fun hc => ?_)
    · have hF := zi_f hF hc
      refine lv_aload_n hx hb dX7_shift_16 rfl (lv_at hl 0 rfl) ?_
      refine z_getr hX hH 0 6 70 rfl rfl flX7_shift_36 dX7_shift_17 ?_
      refine lv_iload_n hx hb dX7_shift_20 rfl (lv_at hl 1 rfl) ?_
      obtain ⟨h7, hF⟩ := zg_e hF
      have h8 : a1.toNat < 6 := by have := h7.1; have := h7.2; omega
      refine z_aald (ts := [71, 73, 75, 77, 79, 81]) hX hH 70 2 (71 + 2 * a1.toNat) rfl rfl rfl h7 (by decide) (ra_LX_71 a1.toNat h8) dX7_shift_21 ?_
      refine lv_astore (lv' := [(6, .ref (α (71 + 2 * a1.toNat))), (0, .ref (α 0)), (1, .int (nZ a1)), (2, .int (nZ a2)), (3, .int (nZ a3)), (4, .int (nZ a4)), (5, .int (nZ a5))]) hx hb dX7_shift_22 hl (by decide) rfl (fun ls hl => ?_)
      refine lv_aload_n hx hb dX7_shift_24 rfl (lv_at hl 1 rfl) ?_
      refine z_getr hX hH 0 6 70 rfl rfl flX7_shift_36 dX7_shift_25 ?_
      refine lv_iload_n hx hb dX7_shift_28 rfl (lv_at hl 4 rfl) ?_
      obtain ⟨h9, hF⟩ := zg_e hF
      have h10 : a3.toNat < 6 := by have := h9.1; have := h9.2; omega
      refine z_aald (ts := [71, 73, 75, 77, 79, 81]) hX hH 70 2 (71 + 2 * a3.toNat) rfl rfl rfl h9 (by decide) (ra_LX_71 a3.toNat h10) dX7_shift_29 ?_
      refine lv_astore (lv' := [(7, .ref (α (71 + 2 * a3.toNat))), (6, .ref (α (71 + 2 * a1.toNat))), (0, .ref (α 0)), (1, .int (nZ a1)), (2, .int (nZ a2)), (3, .int (nZ a3)), (4, .int (nZ a4)), (5, .int (nZ a5))]) hx hb dX7_shift_30 hl (by decide) rfl (fun ls hl => ?_)
      refine lv_aload hx hb dX7_shift_32 (lv_at hl 1 rfl) ?_
      refine z_geti hX hH (71 + 2 * a1.toNat) 1 (fm_LX_71_0 κ a1.toNat h8) rfl flX7_shift_185 dX7_shift_34 ?_
      refine z_iconst hx hb dX7_shift_37 ?_
      obtain ⟨h11, hF⟩ := zg_e hF
      refine z_icmp_eq (tgt := 50) hx hb h11 (by decide) dX7_shift_38 (by decide) (fun hc => ?_) (fun hc => ?_)
      · have hF := zi_t hF hc
        refine z_bipush (v := -11) hx hb dX7_shift_50 (by decide +kernel) ?_
        exact z_iret hX hr hlocks hH hF rfl dX7_shift_52
      · have hF := zi_f hF hc
        refine lv_aload hx hb dX7_shift_41 (lv_at hl 0 rfl) ?_
        refine z_geti hX hH (71 + 2 * a3.toNat) 1 (fm_LX_71_0 κ a3.toNat h10) rfl flX7_shift_185 dX7_shift_43 ?_
        refine z_iconst hx hb dX7_shift_46 ?_
        obtain ⟨h12, hF⟩ := zg_e hF
        refine z_icmp_ne (tgt := 53) hx hb h12 (by decide) dX7_shift_47 (by decide) (fun hc => ?_) (fun hc => ?_)
        · have hF := zi_f hF hc
          refine lv_aload hx hb dX7_shift_53 (lv_at hl 1 rfl) ?_
          refine z_geti hX hH (71 + 2 * a1.toNat) 1 (fm_LX_71_0 κ a1.toNat h8) rfl flX7_shift_185 dX7_shift_55 ?_
          refine lv_aload hx hb dX7_shift_58 (lv_at hl 0 rfl) ?_
          refine z_geti hX hH (71 + 2 * a3.toNat) 1 (fm_LX_71_0 κ a3.toNat h10) rfl flX7_shift_185 dX7_shift_60 ?_
          refine z_icmp_eq (tgt := 69) hx hb h11 h12 dX7_shift_63 (by decide) (fun hc => ?_) (fun hc => ?_)
          · have hF := zi_t hF hc
            refine lv_aload hx hb dX7_shift_69 (lv_at hl 1 rfl) ?_
            refine lv_iload_n hx hb dX7_shift_71 rfl (lv_at hl 4 rfl) ?_
            refine lv_iload hx hb dX7_shift_72 (lv_at hl 7 rfl) ?_
            obtain ⟨r15, M14, c13, hF⟩ := zc2_e hF
            obtain ⟨M16, eM16, hF⟩ := zl_e hF
            refine z_callVi (As := [.int (nZ a2), .int (nZ a5)]) hX hH (71 + 2 * a1.toNat) 4 (em_LX_is_f71n2 κ a1.toNat h8) (ctX4_hasRange l D cs (zsb (is_f71n2 a1.toNat) α) N (zpk (is_f71n2 a1.toNat) M) a2 a5 r15 M14 c13) (cwV 2 hts gX7_shift_X4_hasRange rfl rfl rfl (by decide +kernel) ⟨Nat.le_of_ble_eq_true rfl, Nat.le_of_ble_eq_true rfl⟩) (fm_LX_71_0 κ a1.toNat h8) rfl rfl hl.1 (Nat.le_of_ble_eq_true rfl) rfl dX7_shift_74 ⟨Nat.zero_le _, Nat.zero_le _⟩ (fun H locs hH => ?_)
            rw [← eM16] at hH
            obtain ⟨h17, hF⟩ := zg_e hF
            refine z_if_eq (tgt := 92) hx hb h17 dX7_shift_77 (by decide) (fun hc => ?_) (fun hc => ?_)
            · have hF := zi_t hF hc
              refine z_bipush (v := -13) hx hb dX7_shift_92 (by decide +kernel) ?_
              exact z_iret hX hr hlocks hH hF rfl dX7_shift_94
            · have hF := zi_f hF hc
              refine lv_aload hx hb dX7_shift_80 (lv_at hl 0 rfl) ?_
              refine lv_iload hx hb dX7_shift_82 (lv_at hl 6 rfl) ?_
              refine lv_iload hx hb dX7_shift_84 (lv_at hl 7 rfl) ?_
              obtain ⟨r20, M19, c18, hF⟩ := zc2_e hF
              obtain ⟨M21, eM21, hF⟩ := zl_e hF
              refine z_callVi (As := [.int (nZ a4), .int (nZ a5)]) hX hH (71 + 2 * a3.toNat) 4 (em_LX_is_f71n2 κ a3.toNat h10) (ctX4_hasRange l D cs (zsb (is_f71n2 a3.toNat) α) N (zpk (is_f71n2 a3.toNat) M16) a4 a5 r20 M19 c18) (cwV 2 hts gX7_shift_X4_hasRange rfl rfl rfl (by decide +kernel) ⟨Nat.le_of_ble_eq_true rfl, Nat.le_of_ble_eq_true rfl⟩) (fm_LX_71_0 κ a3.toNat h10) rfl rfl hl.1 (Nat.le_of_ble_eq_true rfl) rfl dX7_shift_86 ⟨Nat.zero_le _, Nat.zero_le _⟩ (fun H locs hH => ?_)
              rw [← eM21] at hH
              obtain ⟨h22, hF⟩ := zg_e hF
              refine z_if_ne (tgt := 95) hx hb h22 dX7_shift_89 (by decide) (fun hc => ?_) (fun hc => ?_)
              · have hF := zi_f hF hc
                refine lv_aload hx hb dX7_shift_95 (lv_at hl 1 rfl) ?_
                refine z_getr hX hH (71 + 2 * a1.toNat) 0 (71 + 2 * a1.toNat + 1) (fm_LX_71_0 κ a1.toNat h8) rfl flX7_shift_189 dX7_shift_97 ?_
                refine lv_iload_n hx hb dX7_shift_100 rfl (lv_at hl 4 rfl) ?_
                refine lv_aload hx hb dX7_shift_101 (lv_at hl 0 rfl) ?_
                refine z_getr hX hH (71 + 2 * a3.toNat) 0 (71 + 2 * a3.toNat + 1) (fm_LX_71_0 κ a3.toNat h10) rfl flX7_shift_189 dX7_shift_103 ?_
                refine lv_iload hx hb dX7_shift_106 (lv_at hl 6 rfl) ?_
                refine lv_iload hx hb dX7_shift_108 (lv_at hl 7 rfl) ?_
                obtain ⟨h23, hF⟩ := zg_e hF
                obtain ⟨M24, eM24, hF⟩ := zl_e hF
                refine z_copyl hX hH hl.1 (71 + 2 * a1.toNat + 1) (71 + 2 * a3.toNat + 1) eM24 (fm_LX_71_1 κ a1.toNat h8) (fm_LX_71_1 κ a3.toNat h10) (hts (.methodLink RX7 210 arraycopyName) (by decide +kernel)) (hts (.native arraycopyName) (by decide +kernel)) (hts (.static arraycopyName) (by decide +kernel)) (hts (.initialized "java/lang/System") (by decide +kernel)) h23 (by decide) (by decide) (Nat.le_of_ble_eq_true rfl) (Nat.le_of_ble_eq_true rfl) dX7_shift_110 (fun H locs hH => ?_)
                refine lv_iload hx hb dX7_shift_113 (lv_at hl 7 rfl) ?_
                exact z_iret hX hr hlocks hH hF rfl dX7_shift_115
              · have hF := zi_t hF hc
                refine z_bipush (v := -13) hx hb dX7_shift_92 (by decide +kernel) ?_
                exact z_iret hX hr hlocks hH hF rfl dX7_shift_94
          · have hF := zi_f hF hc
            refine z_bipush (v := -12) hx hb dX7_shift_66 (by decide +kernel) ?_
            exact z_iret hX hr hlocks hH hF rfl dX7_shift_68
        · have hF := zi_t hF hc
          refine z_bipush (v := -11) hx hb dX7_shift_50 (by decide +kernel) ?_
          exact z_iret hX hr hlocks hH hF rfl dX7_shift_52
    · have hF := zi_t hF hc
      refine z_iconst hx hb dX7_shift_14 ?_
      exact z_iret hX hr hlocks hH hF rfl dX7_shift_15
