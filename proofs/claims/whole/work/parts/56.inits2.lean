/-! laid by wip/whole/gen56.py: the constructors of the queues and of the store -/
def yMQ : zM := fun k j => if k = 3 ∨ k = 4 then (if 400 ≤ j ∧ j < 405 then (j : Int) else 0) else 0
theorem yMQ_end (k : Nat) (hk : k < 5) : (zup (zup (zup (zup (zup (zup (zup (zup (zup (zup (fun _ _ => 0) 3 400 400) 4 400 400) 3 401 401) 4 401 401) 3 402 402) 4 402 402) 3 403 403) 4 403 403) 3 404 404) 4 404 404) k = yMQ k := by
  funext j
  rcases (show k = 0 ∨ k = 1 ∨ k = 2 ∨ k = 3 ∨ k = 4 by omega) with rfl | rfl | rfl | rfl | rfl
  · rfl
  · rfl
  · rfl
  all_goals
    rcases (show j = 400 ∨ j = 401 ∨ j = 402 ∨ j = 403 ∨ j = 404 ∨ ¬ (400 ≤ j ∧ j < 405) by omega) with rfl | rfl | rfl | rfl | rfl | q
    · rfl
    · rfl
    · rfl
    · rfl
    · rfl
    · have e0 : j ≠ 400 := by omega
      have e1 : j ≠ 401 := by omega
      have e2 : j ≠ 402 := by omega
      have e3 : j ≠ 403 := by omega
      have e4 : j ≠ 404 := by omega
      simp [zup, yMQ, e0, e1, e2, e3, e4, q]
set_option maxHeartbeats 40000000 in
set_option maxRecDepth 100000 in
theorem ctX2_init (l : Launch) (D : va_G) (cs : Nat → ClassId) (a h : Nat) : Met l yX2_init wsX2_init ({ frames := 1, cells := 4, slots := 820, locals := 40 }) (yPre D cs 2 [1, 1, 1, 1] a h) (yQ D cs LQ yMQ a h) 4 820 (yA a h) := by
  refine y_met (cc := cX2_init) (maxL := 2) (by decide +kernel) rfl RX2 rfl (by decide) ?_
  intro p e s m below meth c ls hX hr hlocks hnm hz hH hl
  have hx := hX.1.1
  have hb := hX.1.2.1
  have hts := hX.1.2.2.2.2
  have hown := hX.1.2.2.2.1
  have hl : lv_has ls 2 [(0, .ref a)] := hl
  have hA : ∀ q, s.heap.size ≤ q → yA a h q := fun q hq => Or.inr (by rw [← hz]; exact hq)
  generalize hHs : s.heap = H at hH ⊢
  generalize hls : ([] : List Loc) = locs at hH ⊢
  refine lv_aload_n hx hb dX2_init_0 rfl (lv_at hl 0 rfl) ?_
  refine W.objInit hx hb hown (hts (.methodLink RX2 3 objectInit) (by decide +kernel)) (hts (.instanceMethod objectInit) (by decide +kernel)) (hts (.code objectInit ⟨#[0xb1]⟩ 1 none) (by decide +kernel)) rfl (by rw [hX.1.2.2.1]; exact hl.1) rfl dX2_init_1 (by decide) (Nat.le_of_ble_eq_true rfl) ?_
  refine lv_aload_n hx hb dX2_init_4 rfl (lv_at hl 0 rfl) ?_
  refine z_iconst hx hb dX2_init_5 ?_
  refine y_newi hX hH rfl hA (n := 5) rfl (by decide) (by decide +kernel) rfl (Nat.le_of_ble_eq_true rfl) (Nat.le_of_ble_eq_true rfl) dX2_init_6 (fun q1 H hH => ?_)
  have hH : zHv D cs [(0, 2, [1, 1, 1, 1]), (1, 5, [])] (zal (fun _ => a) 1 q1) (fun _ _ => 0) (yA a h) s H locs := hH
  refine y_putr (α := (zal (fun _ => a) 1 q1)) (fs := [1, 1, 1, 1]) hX hH 0 0 1 rfl (by decide) (C := RX2) (T := TX2) (N := 4) rfl tyX2 tyX2_ok nmX2 (by decide +kernel) (by decide +kernel) (by decide) rfl rfl hnm rfl rfl (fun _ => ⟨rfl, rfl⟩) dX2_init_8 (fun H locs hH => ?_)
  have hH : zHv D cs [(0, 2, [3, 1, 1, 1]), (1, 5, [])] (zal (fun _ => a) 1 q1) (fun _ _ => 0) (yA a h) s H locs := hH
  refine lv_aload_n hx hb dX2_init_11 rfl (lv_at hl 0 rfl) ?_
  refine z_iconst hx hb dX2_init_12 ?_
  refine y_newi hX hH rfl hA (n := 5) rfl (by decide) (by decide +kernel) rfl (Nat.le_of_ble_eq_true rfl) (Nat.le_of_ble_eq_true rfl) dX2_init_13 (fun q2 H hH => ?_)
  have hH : zHv D cs [(0, 2, [3, 1, 1, 1]), (1, 5, []), (1, 5, [])] (zal (zal (fun _ => a) 1 q1) 2 q2) (fun _ _ => 0) (yA a h) s H locs := hH
  refine y_putr (α := (zal (zal (fun _ => a) 1 q1) 2 q2)) (fs := [3, 1, 1, 1]) hX hH 0 1 2 rfl (by decide) (C := RX2) (T := TX2) (N := 4) rfl tyX2 tyX2_ok nmX2 (by decide +kernel) (by decide +kernel) (by decide) rfl rfl hnm rfl rfl (fun _ => ⟨rfl, rfl⟩) dX2_init_15 (fun H locs hH => ?_)
  have hH : zHv D cs [(0, 2, [3, 4, 1, 1]), (1, 5, []), (1, 5, [])] (zal (zal (fun _ => a) 1 q1) 2 q2) (fun _ _ => 0) (yA a h) s H locs := hH
  refine lv_aload_n hx hb dX2_init_18 rfl (lv_at hl 0 rfl) ?_
  refine z_sipush (v := 405) hx hb dX2_init_19 (by decide +kernel) ?_
  refine y_newi hX hH rfl hA (n := 405) rfl (by decide) (by decide +kernel) rfl (Nat.le_of_ble_eq_true rfl) (Nat.le_of_ble_eq_true rfl) dX2_init_22 (fun q3 H hH => ?_)
  have hH : zHv D cs [(0, 2, [3, 4, 1, 1]), (1, 5, []), (1, 5, []), (1, 405, [])] (zal (zal (zal (fun _ => a) 1 q1) 2 q2) 3 q3) (fun _ _ => 0) (yA a h) s H locs := hH
  refine y_putr (α := (zal (zal (zal (fun _ => a) 1 q1) 2 q2) 3 q3)) (fs := [3, 4, 1, 1]) hX hH 0 2 3 rfl (by decide) (C := RX2) (T := TX2) (N := 4) rfl tyX2 tyX2_ok nmX2 (by decide +kernel) (by decide +kernel) (by decide) rfl rfl hnm rfl rfl (fun _ => ⟨rfl, rfl⟩) dX2_init_24 (fun H locs hH => ?_)
  have hH : zHv D cs [(0, 2, [3, 4, 5, 1]), (1, 5, []), (1, 5, []), (1, 405, [])] (zal (zal (zal (fun _ => a) 1 q1) 2 q2) 3 q3) (fun _ _ => 0) (yA a h) s H locs := hH
  refine lv_aload_n hx hb dX2_init_27 rfl (lv_at hl 0 rfl) ?_
  refine z_sipush (v := 405) hx hb dX2_init_28 (by decide +kernel) ?_
  refine y_newi hX hH rfl hA (n := 405) rfl (by decide) (by decide +kernel) rfl (Nat.le_of_ble_eq_true rfl) (Nat.le_of_ble_eq_true rfl) dX2_init_31 (fun q4 H hH => ?_)
  have hH : zHv D cs [(0, 2, [3, 4, 5, 1]), (1, 5, []), (1, 5, []), (1, 405, []), (1, 405, [])] (zal (zal (zal (zal (fun _ => a) 1 q1) 2 q2) 3 q3) 4 q4) (fun _ _ => 0) (yA a h) s H locs := hH
  refine y_putr (α := (zal (zal (zal (zal (fun _ => a) 1 q1) 2 q2) 3 q3) 4 q4)) (fs := [3, 4, 5, 1]) hX hH 0 3 4 rfl (by decide) (C := RX2) (T := TX2) (N := 4) rfl tyX2 tyX2_ok nmX2 (by decide +kernel) (by decide +kernel) (by decide) rfl rfl hnm rfl rfl (fun _ => ⟨rfl, rfl⟩) dX2_init_33 (fun H locs hH => ?_)
  have hH : zHv D cs [(0, 2, [3, 4, 5, 6]), (1, 5, []), (1, 5, []), (1, 405, []), (1, 405, [])] (zal (zal (zal (zal (fun _ => a) 1 q1) 2 q2) 3 q3) 4 q4) (fun _ _ => 0) (yA a h) s H locs := hH
  refine z_iconst hx hb dX2_init_36 ?_
  refine z_istore_n (v := 0) rfl (lv' := [(1, .int (nZ 0)), (0, .ref a)]) hx hb dX2_init_37 rfl hl (by decide) rfl (fun ls hl => ?_)
  refine lv_iload_n hx hb dX2_init_38 rfl (lv_at hl 0 rfl) ?_
  refine z_iconst hx hb dX2_init_39 ?_
  refine z_icmp_ge (a := 0) (b := 5) hx hb (by decide) (by decide) dX2_init_40 rfl (fun q => absurd q (by decide)) (fun _ => ?_)
  refine lv_aload_n hx hb dX2_init_43 rfl (lv_at hl 1 rfl) ?_
  refine y_getr (α := (zal (zal (zal (zal (fun _ => a) 1 q1) 2 q2) 3 q3) 4 q4)) (fs := [3, 4, 5, 6]) hX hH 0 2 3 rfl rfl ⟨_, TX2, _, rfl, by decide +kernel, by decide +kernel, by decide, rfl⟩ dX2_init_44 ?_
  refine z_sipush (v := 400) hx hb dX2_init_47 (by decide +kernel) ?_
  refine lv_iload_n hx hb dX2_init_50 rfl (lv_at hl 0 rfl) ?_
  refine z_iadd hx hb dX2_init_51 ?_
  refine z_sipush (v := 400) hx hb dX2_init_52 (by decide +kernel) ?_
  refine lv_iload_n hx hb dX2_init_55 rfl (lv_at hl 0 rfl) ?_
  refine z_iadd hx hb dX2_init_56 ?_
  refine y_iast (α := (zal (zal (zal (zal (fun _ => a) 1 q1) 2 q2) 3 q3) 4 q4)) (M := (fun _ _ => 0)) (i := (400 + 0)) (i0 := 400) (v := (400 + 0)) hX hH 3 405 rfl rfl (by decide) (by decide) dX2_init_57 (fun H locs hH => ?_)
  have hH : zHv D cs [(0, 2, [3, 4, 5, 6]), (1, 5, []), (1, 5, []), (1, 405, []), (1, 405, [])] (zal (zal (zal (zal (fun _ => a) 1 q1) 2 q2) 3 q3) 4 q4) (zup (fun _ _ => 0) 3 400 400) (yA a h) s H locs := hH
  refine lv_aload_n hx hb dX2_init_58 rfl (lv_at hl 1 rfl) ?_
  refine y_getr (α := (zal (zal (zal (zal (fun _ => a) 1 q1) 2 q2) 3 q3) 4 q4)) (fs := [3, 4, 5, 6]) hX hH 0 3 4 rfl rfl ⟨_, TX2, _, rfl, by decide +kernel, by decide +kernel, by decide, rfl⟩ dX2_init_59 ?_
  refine z_sipush (v := 400) hx hb dX2_init_62 (by decide +kernel) ?_
  refine lv_iload_n hx hb dX2_init_65 rfl (lv_at hl 0 rfl) ?_
  refine z_iadd hx hb dX2_init_66 ?_
  refine z_sipush (v := 400) hx hb dX2_init_67 (by decide +kernel) ?_
  refine lv_iload_n hx hb dX2_init_70 rfl (lv_at hl 0 rfl) ?_
  refine z_iadd hx hb dX2_init_71 ?_
  refine y_iast (α := (zal (zal (zal (zal (fun _ => a) 1 q1) 2 q2) 3 q3) 4 q4)) (M := (zup (fun _ _ => 0) 3 400 400)) (i := (400 + 0)) (i0 := 400) (v := (400 + 0)) hX hH 4 405 rfl rfl (by decide) (by decide) dX2_init_72 (fun H locs hH => ?_)
  have hH : zHv D cs [(0, 2, [3, 4, 5, 6]), (1, 5, []), (1, 5, []), (1, 405, []), (1, 405, [])] (zal (zal (zal (zal (fun _ => a) 1 q1) 2 q2) 3 q3) 4 q4) (zup (zup (fun _ _ => 0) 3 400 400) 4 400 400) (yA a h) s H locs := hH
  refine z_iinc (a := 0) (v := 1) (by decide) (lv' := [(1, .int (nZ 1)), (0, .ref a)]) hx hb dX2_init_73 hl (k := 0) rfl (by decide) rfl (fun ls hl => ?_)
  refine lv_goto hx hb dX2_init_76 rfl ?_
  refine lv_iload_n hx hb dX2_init_38 rfl (lv_at hl 0 rfl) ?_
  refine z_iconst hx hb dX2_init_39 ?_
  refine z_icmp_ge (a := 1) (b := 5) hx hb (by decide) (by decide) dX2_init_40 rfl (fun q => absurd q (by decide)) (fun _ => ?_)
  refine lv_aload_n hx hb dX2_init_43 rfl (lv_at hl 1 rfl) ?_
  refine y_getr (α := (zal (zal (zal (zal (fun _ => a) 1 q1) 2 q2) 3 q3) 4 q4)) (fs := [3, 4, 5, 6]) hX hH 0 2 3 rfl rfl ⟨_, TX2, _, rfl, by decide +kernel, by decide +kernel, by decide, rfl⟩ dX2_init_44 ?_
  refine z_sipush (v := 400) hx hb dX2_init_47 (by decide +kernel) ?_
  refine lv_iload_n hx hb dX2_init_50 rfl (lv_at hl 0 rfl) ?_
  refine z_iadd hx hb dX2_init_51 ?_
  refine z_sipush (v := 400) hx hb dX2_init_52 (by decide +kernel) ?_
  refine lv_iload_n hx hb dX2_init_55 rfl (lv_at hl 0 rfl) ?_
  refine z_iadd hx hb dX2_init_56 ?_
  refine y_iast (α := (zal (zal (zal (zal (fun _ => a) 1 q1) 2 q2) 3 q3) 4 q4)) (M := (zup (zup (fun _ _ => 0) 3 400 400) 4 400 400)) (i := (400 + 1)) (i0 := 401) (v := (400 + 1)) hX hH 3 405 rfl rfl (by decide) (by decide) dX2_init_57 (fun H locs hH => ?_)
  have hH : zHv D cs [(0, 2, [3, 4, 5, 6]), (1, 5, []), (1, 5, []), (1, 405, []), (1, 405, [])] (zal (zal (zal (zal (fun _ => a) 1 q1) 2 q2) 3 q3) 4 q4) (zup (zup (zup (fun _ _ => 0) 3 400 400) 4 400 400) 3 401 401) (yA a h) s H locs := hH
  refine lv_aload_n hx hb dX2_init_58 rfl (lv_at hl 1 rfl) ?_
  refine y_getr (α := (zal (zal (zal (zal (fun _ => a) 1 q1) 2 q2) 3 q3) 4 q4)) (fs := [3, 4, 5, 6]) hX hH 0 3 4 rfl rfl ⟨_, TX2, _, rfl, by decide +kernel, by decide +kernel, by decide, rfl⟩ dX2_init_59 ?_
  refine z_sipush (v := 400) hx hb dX2_init_62 (by decide +kernel) ?_
  refine lv_iload_n hx hb dX2_init_65 rfl (lv_at hl 0 rfl) ?_
  refine z_iadd hx hb dX2_init_66 ?_
  refine z_sipush (v := 400) hx hb dX2_init_67 (by decide +kernel) ?_
  refine lv_iload_n hx hb dX2_init_70 rfl (lv_at hl 0 rfl) ?_
  refine z_iadd hx hb dX2_init_71 ?_
  refine y_iast (α := (zal (zal (zal (zal (fun _ => a) 1 q1) 2 q2) 3 q3) 4 q4)) (M := (zup (zup (zup (fun _ _ => 0) 3 400 400) 4 400 400) 3 401 401)) (i := (400 + 1)) (i0 := 401) (v := (400 + 1)) hX hH 4 405 rfl rfl (by decide) (by decide) dX2_init_72 (fun H locs hH => ?_)
  have hH : zHv D cs [(0, 2, [3, 4, 5, 6]), (1, 5, []), (1, 5, []), (1, 405, []), (1, 405, [])] (zal (zal (zal (zal (fun _ => a) 1 q1) 2 q2) 3 q3) 4 q4) (zup (zup (zup (zup (fun _ _ => 0) 3 400 400) 4 400 400) 3 401 401) 4 401 401) (yA a h) s H locs := hH
  refine z_iinc (a := 1) (v := 2) (by decide) (lv' := [(1, .int (nZ 2)), (0, .ref a)]) hx hb dX2_init_73 hl (k := 0) rfl (by decide) rfl (fun ls hl => ?_)
  refine lv_goto hx hb dX2_init_76 rfl ?_
  refine lv_iload_n hx hb dX2_init_38 rfl (lv_at hl 0 rfl) ?_
  refine z_iconst hx hb dX2_init_39 ?_
  refine z_icmp_ge (a := 2) (b := 5) hx hb (by decide) (by decide) dX2_init_40 rfl (fun q => absurd q (by decide)) (fun _ => ?_)
  refine lv_aload_n hx hb dX2_init_43 rfl (lv_at hl 1 rfl) ?_
  refine y_getr (α := (zal (zal (zal (zal (fun _ => a) 1 q1) 2 q2) 3 q3) 4 q4)) (fs := [3, 4, 5, 6]) hX hH 0 2 3 rfl rfl ⟨_, TX2, _, rfl, by decide +kernel, by decide +kernel, by decide, rfl⟩ dX2_init_44 ?_
  refine z_sipush (v := 400) hx hb dX2_init_47 (by decide +kernel) ?_
  refine lv_iload_n hx hb dX2_init_50 rfl (lv_at hl 0 rfl) ?_
  refine z_iadd hx hb dX2_init_51 ?_
  refine z_sipush (v := 400) hx hb dX2_init_52 (by decide +kernel) ?_
  refine lv_iload_n hx hb dX2_init_55 rfl (lv_at hl 0 rfl) ?_
  refine z_iadd hx hb dX2_init_56 ?_
  refine y_iast (α := (zal (zal (zal (zal (fun _ => a) 1 q1) 2 q2) 3 q3) 4 q4)) (M := (zup (zup (zup (zup (fun _ _ => 0) 3 400 400) 4 400 400) 3 401 401) 4 401 401)) (i := (400 + 2)) (i0 := 402) (v := (400 + 2)) hX hH 3 405 rfl rfl (by decide) (by decide) dX2_init_57 (fun H locs hH => ?_)
  have hH : zHv D cs [(0, 2, [3, 4, 5, 6]), (1, 5, []), (1, 5, []), (1, 405, []), (1, 405, [])] (zal (zal (zal (zal (fun _ => a) 1 q1) 2 q2) 3 q3) 4 q4) (zup (zup (zup (zup (zup (fun _ _ => 0) 3 400 400) 4 400 400) 3 401 401) 4 401 401) 3 402 402) (yA a h) s H locs := hH
  refine lv_aload_n hx hb dX2_init_58 rfl (lv_at hl 1 rfl) ?_
  refine y_getr (α := (zal (zal (zal (zal (fun _ => a) 1 q1) 2 q2) 3 q3) 4 q4)) (fs := [3, 4, 5, 6]) hX hH 0 3 4 rfl rfl ⟨_, TX2, _, rfl, by decide +kernel, by decide +kernel, by decide, rfl⟩ dX2_init_59 ?_
  refine z_sipush (v := 400) hx hb dX2_init_62 (by decide +kernel) ?_
  refine lv_iload_n hx hb dX2_init_65 rfl (lv_at hl 0 rfl) ?_
  refine z_iadd hx hb dX2_init_66 ?_
  refine z_sipush (v := 400) hx hb dX2_init_67 (by decide +kernel) ?_
  refine lv_iload_n hx hb dX2_init_70 rfl (lv_at hl 0 rfl) ?_
  refine z_iadd hx hb dX2_init_71 ?_
  refine y_iast (α := (zal (zal (zal (zal (fun _ => a) 1 q1) 2 q2) 3 q3) 4 q4)) (M := (zup (zup (zup (zup (zup (fun _ _ => 0) 3 400 400) 4 400 400) 3 401 401) 4 401 401) 3 402 402)) (i := (400 + 2)) (i0 := 402) (v := (400 + 2)) hX hH 4 405 rfl rfl (by decide) (by decide) dX2_init_72 (fun H locs hH => ?_)
  have hH : zHv D cs [(0, 2, [3, 4, 5, 6]), (1, 5, []), (1, 5, []), (1, 405, []), (1, 405, [])] (zal (zal (zal (zal (fun _ => a) 1 q1) 2 q2) 3 q3) 4 q4) (zup (zup (zup (zup (zup (zup (fun _ _ => 0) 3 400 400) 4 400 400) 3 401 401) 4 401 401) 3 402 402) 4 402 402) (yA a h) s H locs := hH
  refine z_iinc (a := 2) (v := 3) (by decide) (lv' := [(1, .int (nZ 3)), (0, .ref a)]) hx hb dX2_init_73 hl (k := 0) rfl (by decide) rfl (fun ls hl => ?_)
  refine lv_goto hx hb dX2_init_76 rfl ?_
  refine lv_iload_n hx hb dX2_init_38 rfl (lv_at hl 0 rfl) ?_
  refine z_iconst hx hb dX2_init_39 ?_
  refine z_icmp_ge (a := 3) (b := 5) hx hb (by decide) (by decide) dX2_init_40 rfl (fun q => absurd q (by decide)) (fun _ => ?_)
  refine lv_aload_n hx hb dX2_init_43 rfl (lv_at hl 1 rfl) ?_
  refine y_getr (α := (zal (zal (zal (zal (fun _ => a) 1 q1) 2 q2) 3 q3) 4 q4)) (fs := [3, 4, 5, 6]) hX hH 0 2 3 rfl rfl ⟨_, TX2, _, rfl, by decide +kernel, by decide +kernel, by decide, rfl⟩ dX2_init_44 ?_
  refine z_sipush (v := 400) hx hb dX2_init_47 (by decide +kernel) ?_
  refine lv_iload_n hx hb dX2_init_50 rfl (lv_at hl 0 rfl) ?_
  refine z_iadd hx hb dX2_init_51 ?_
  refine z_sipush (v := 400) hx hb dX2_init_52 (by decide +kernel) ?_
  refine lv_iload_n hx hb dX2_init_55 rfl (lv_at hl 0 rfl) ?_
  refine z_iadd hx hb dX2_init_56 ?_
  refine y_iast (α := (zal (zal (zal (zal (fun _ => a) 1 q1) 2 q2) 3 q3) 4 q4)) (M := (zup (zup (zup (zup (zup (zup (fun _ _ => 0) 3 400 400) 4 400 400) 3 401 401) 4 401 401) 3 402 402) 4 402 402)) (i := (400 + 3)) (i0 := 403) (v := (400 + 3)) hX hH 3 405 rfl rfl (by decide) (by decide) dX2_init_57 (fun H locs hH => ?_)
  have hH : zHv D cs [(0, 2, [3, 4, 5, 6]), (1, 5, []), (1, 5, []), (1, 405, []), (1, 405, [])] (zal (zal (zal (zal (fun _ => a) 1 q1) 2 q2) 3 q3) 4 q4) (zup (zup (zup (zup (zup (zup (zup (fun _ _ => 0) 3 400 400) 4 400 400) 3 401 401) 4 401 401) 3 402 402) 4 402 402) 3 403 403) (yA a h) s H locs := hH
  refine lv_aload_n hx hb dX2_init_58 rfl (lv_at hl 1 rfl) ?_
  refine y_getr (α := (zal (zal (zal (zal (fun _ => a) 1 q1) 2 q2) 3 q3) 4 q4)) (fs := [3, 4, 5, 6]) hX hH 0 3 4 rfl rfl ⟨_, TX2, _, rfl, by decide +kernel, by decide +kernel, by decide, rfl⟩ dX2_init_59 ?_
  refine z_sipush (v := 400) hx hb dX2_init_62 (by decide +kernel) ?_
  refine lv_iload_n hx hb dX2_init_65 rfl (lv_at hl 0 rfl) ?_
  refine z_iadd hx hb dX2_init_66 ?_
  refine z_sipush (v := 400) hx hb dX2_init_67 (by decide +kernel) ?_
  refine lv_iload_n hx hb dX2_init_70 rfl (lv_at hl 0 rfl) ?_
  refine z_iadd hx hb dX2_init_71 ?_
  refine y_iast (α := (zal (zal (zal (zal (fun _ => a) 1 q1) 2 q2) 3 q3) 4 q4)) (M := (zup (zup (zup (zup (zup (zup (zup (fun _ _ => 0) 3 400 400) 4 400 400) 3 401 401) 4 401 401) 3 402 402) 4 402 402) 3 403 403)) (i := (400 + 3)) (i0 := 403) (v := (400 + 3)) hX hH 4 405 rfl rfl (by decide) (by decide) dX2_init_72 (fun H locs hH => ?_)
  have hH : zHv D cs [(0, 2, [3, 4, 5, 6]), (1, 5, []), (1, 5, []), (1, 405, []), (1, 405, [])] (zal (zal (zal (zal (fun _ => a) 1 q1) 2 q2) 3 q3) 4 q4) (zup (zup (zup (zup (zup (zup (zup (zup (fun _ _ => 0) 3 400 400) 4 400 400) 3 401 401) 4 401 401) 3 402 402) 4 402 402) 3 403 403) 4 403 403) (yA a h) s H locs := hH
  refine z_iinc (a := 3) (v := 4) (by decide) (lv' := [(1, .int (nZ 4)), (0, .ref a)]) hx hb dX2_init_73 hl (k := 0) rfl (by decide) rfl (fun ls hl => ?_)
  refine lv_goto hx hb dX2_init_76 rfl ?_
  refine lv_iload_n hx hb dX2_init_38 rfl (lv_at hl 0 rfl) ?_
  refine z_iconst hx hb dX2_init_39 ?_
  refine z_icmp_ge (a := 4) (b := 5) hx hb (by decide) (by decide) dX2_init_40 rfl (fun q => absurd q (by decide)) (fun _ => ?_)
  refine lv_aload_n hx hb dX2_init_43 rfl (lv_at hl 1 rfl) ?_
  refine y_getr (α := (zal (zal (zal (zal (fun _ => a) 1 q1) 2 q2) 3 q3) 4 q4)) (fs := [3, 4, 5, 6]) hX hH 0 2 3 rfl rfl ⟨_, TX2, _, rfl, by decide +kernel, by decide +kernel, by decide, rfl⟩ dX2_init_44 ?_
  refine z_sipush (v := 400) hx hb dX2_init_47 (by decide +kernel) ?_
  refine lv_iload_n hx hb dX2_init_50 rfl (lv_at hl 0 rfl) ?_
  refine z_iadd hx hb dX2_init_51 ?_
  refine z_sipush (v := 400) hx hb dX2_init_52 (by decide +kernel) ?_
  refine lv_iload_n hx hb dX2_init_55 rfl (lv_at hl 0 rfl) ?_
  refine z_iadd hx hb dX2_init_56 ?_
  refine y_iast (α := (zal (zal (zal (zal (fun _ => a) 1 q1) 2 q2) 3 q3) 4 q4)) (M := (zup (zup (zup (zup (zup (zup (zup (zup (fun _ _ => 0) 3 400 400) 4 400 400) 3 401 401) 4 401 401) 3 402 402) 4 402 402) 3 403 403) 4 403 403)) (i := (400 + 4)) (i0 := 404) (v := (400 + 4)) hX hH 3 405 rfl rfl (by decide) (by decide) dX2_init_57 (fun H locs hH => ?_)
  have hH : zHv D cs [(0, 2, [3, 4, 5, 6]), (1, 5, []), (1, 5, []), (1, 405, []), (1, 405, [])] (zal (zal (zal (zal (fun _ => a) 1 q1) 2 q2) 3 q3) 4 q4) (zup (zup (zup (zup (zup (zup (zup (zup (zup (fun _ _ => 0) 3 400 400) 4 400 400) 3 401 401) 4 401 401) 3 402 402) 4 402 402) 3 403 403) 4 403 403) 3 404 404) (yA a h) s H locs := hH
  refine lv_aload_n hx hb dX2_init_58 rfl (lv_at hl 1 rfl) ?_
  refine y_getr (α := (zal (zal (zal (zal (fun _ => a) 1 q1) 2 q2) 3 q3) 4 q4)) (fs := [3, 4, 5, 6]) hX hH 0 3 4 rfl rfl ⟨_, TX2, _, rfl, by decide +kernel, by decide +kernel, by decide, rfl⟩ dX2_init_59 ?_
  refine z_sipush (v := 400) hx hb dX2_init_62 (by decide +kernel) ?_
  refine lv_iload_n hx hb dX2_init_65 rfl (lv_at hl 0 rfl) ?_
  refine z_iadd hx hb dX2_init_66 ?_
  refine z_sipush (v := 400) hx hb dX2_init_67 (by decide +kernel) ?_
  refine lv_iload_n hx hb dX2_init_70 rfl (lv_at hl 0 rfl) ?_
  refine z_iadd hx hb dX2_init_71 ?_
  refine y_iast (α := (zal (zal (zal (zal (fun _ => a) 1 q1) 2 q2) 3 q3) 4 q4)) (M := (zup (zup (zup (zup (zup (zup (zup (zup (zup (fun _ _ => 0) 3 400 400) 4 400 400) 3 401 401) 4 401 401) 3 402 402) 4 402 402) 3 403 403) 4 403 403) 3 404 404)) (i := (400 + 4)) (i0 := 404) (v := (400 + 4)) hX hH 4 405 rfl rfl (by decide) (by decide) dX2_init_72 (fun H locs hH => ?_)
  have hH : zHv D cs [(0, 2, [3, 4, 5, 6]), (1, 5, []), (1, 5, []), (1, 405, []), (1, 405, [])] (zal (zal (zal (zal (fun _ => a) 1 q1) 2 q2) 3 q3) 4 q4) (zup (zup (zup (zup (zup (zup (zup (zup (zup (zup (fun _ _ => 0) 3 400 400) 4 400 400) 3 401 401) 4 401 401) 3 402 402) 4 402 402) 3 403 403) 4 403 403) 3 404 404) 4 404 404) (yA a h) s H locs := hH
  refine z_iinc (a := 4) (v := 5) (by decide) (lv' := [(1, .int (nZ 5)), (0, .ref a)]) hx hb dX2_init_73 hl (k := 0) rfl (by decide) rfl (fun ls hl => ?_)
  refine lv_goto hx hb dX2_init_76 rfl ?_
  refine lv_iload_n hx hb dX2_init_38 rfl (lv_at hl 0 rfl) ?_
  refine z_iconst hx hb dX2_init_39 ?_
  refine z_icmp_ge (a := 5) (b := 5) hx hb (by decide) (by decide) dX2_init_40 rfl (fun _ => ?_) (fun q => absurd (by decide) q)
  exact y_vretM hX hr hlocks hH rfl (fun k hk => yMQ_end k hk) dX2_init_79
def yMS : zM := (zup (zup (zup (zup (zMc 18 (zMc 16 (zMc 8 (zMc 3 (fun _ _ => 0) yMQ) (fun _ _ => 0)) (fun _ _ => 0)) (fun _ _ => 0)) 1 0 20) 1 1 10) 1 2 2) 1 3 1)
set_option maxHeartbeats 40000000 in
set_option maxRecDepth 100000 in
theorem ctX3_init (l : Launch) (D : va_G) (cs : Nat → ClassId) (a h : Nat) : Met l yX3_init wsX3_init ({ frames := 2, cells := 20, slots := 4061, locals := 80 }) (yPreZ D cs 3 [1, 1, 1, 1, 1, 1] a h) (yQ D cs LSt yMS a h) 20 4061 (yA a h) := by
  refine y_metZ (cc := cX3_init) (maxL := 1) (by decide +kernel) rfl RX3 rfl (by decide) ?_
  intro p e s m below meth c ls hX hr hlocks hnm hz hZ hH hl
  have hx := hX.1.1
  have hb := hX.1.2.1
  have hts := hX.1.2.2.2.2
  have hown := hX.1.2.2.2.1
  have hl : lv_has ls 1 [(0, .ref a)] := hl
  have hA : ∀ q, s.heap.size ≤ q → yA a h q := fun q hq => Or.inr (by rw [← hz]; exact hq)
  generalize hHs : s.heap = H at hH ⊢
  generalize hls : ([] : List Loc) = locs at hH ⊢
  refine lv_aload_n hx hb dX3_init_0 rfl (lv_at hl 0 rfl) ?_
  refine W.objInit hx hb hown (hts (.methodLink RX3 3 objectInit) (by decide +kernel)) (hts (.instanceMethod objectInit) (by decide +kernel)) (hts (.code objectInit ⟨#[0xb1]⟩ 1 none) (by decide +kernel)) rfl (by rw [hX.1.2.2.1]; exact hl.1) rfl dX3_init_1 (by decide) (Nat.le_of_ble_eq_true rfl) ?_
  refine lv_aload_n hx hb dX3_init_4 rfl (lv_at hl 0 rfl) ?_
  refine z_iconst hx hb dX3_init_5 ?_
  refine y_newi hX hH rfl hA (n := 4) rfl (by decide) (by decide +kernel) rfl (Nat.le_of_ble_eq_true rfl) (Nat.le_of_ble_eq_true rfl) dX3_init_6 (fun q1 H hH => ?_)
  have hH : zHv D cs [(0, 3, [1, 1, 1, 1, 1, 1]), (1, 4, [])] (zal (fun _ => a) 1 q1) (fun _ _ => 0) (yA a h) s H locs := hH
  refine y_putr (α := (zal (fun _ => a) 1 q1)) (fs := [1, 1, 1, 1, 1, 1]) hX hH 0 0 1 rfl (by decide) (C := RX3) (T := TX3) (N := 6) rfl tyX3 tyX3_ok nmX3 (by decide +kernel) (by decide +kernel) (by decide) rfl rfl hnm rfl rfl (fun _ => ⟨rfl, rfl⟩) dX3_init_8 (fun H locs hH => ?_)
  have hH : zHv D cs [(0, 3, [3, 1, 1, 1, 1, 1]), (1, 4, [])] (zal (fun _ => a) 1 q1) (fun _ _ => 0) (yA a h) s H locs := hH
  refine lv_aload_n hx hb dX3_init_11 rfl (lv_at hl 0 rfl) ?_
  refine z_iconst hx hb dX3_init_12 ?_
  refine y_newi hX hH rfl hA (n := 5) rfl (by decide) (by decide +kernel) rfl (Nat.le_of_ble_eq_true rfl) (Nat.le_of_ble_eq_true rfl) dX3_init_13 (fun q2 H hH => ?_)
  have hH : zHv D cs [(0, 3, [3, 1, 1, 1, 1, 1]), (1, 4, []), (1, 5, [])] (zal (zal (fun _ => a) 1 q1) 2 q2) (fun _ _ => 0) (yA a h) s H locs := hH
  refine y_putr (α := (zal (zal (fun _ => a) 1 q1) 2 q2)) (fs := [3, 1, 1, 1, 1, 1]) hX hH 0 1 2 rfl (by decide) (C := RX3) (T := TX3) (N := 6) rfl tyX3 tyX3_ok nmX3 (by decide +kernel) (by decide +kernel) (by decide) rfl rfl hnm rfl rfl (fun _ => ⟨rfl, rfl⟩) dX3_init_15 (fun H locs hH => ?_)
  have hH : zHv D cs [(0, 3, [3, 4, 1, 1, 1, 1]), (1, 4, []), (1, 5, [])] (zal (zal (fun _ => a) 1 q1) 2 q2) (fun _ _ => 0) (yA a h) s H locs := hH
  refine lv_aload_n hx hb dX3_init_18 rfl (lv_at hl 0 rfl) ?_
  refine y_new (ci := 2) (C := RX2) (T := TX2) (N := 4) (fs := [1, 1, 1, 1]) hX hH rfl hA rfl tyX2 tyX2_ok (by decide +kernel) (by decide +kernel) (by decide +kernel) (by decide +kernel) rfl rfl (fun j hj => by rcases (show j = 0 ∨ j = 1 ∨ j = 2 ∨ j = 3 by omega) with rfl | rfl | rfl | rfl <;> rfl) (Nat.le_of_ble_eq_true rfl) (Nat.le_of_ble_eq_true rfl) dX3_init_19 (fun q3 H hH => ?_)
  have hH : zHv D cs [(0, 3, [3, 4, 1, 1, 1, 1]), (1, 4, []), (1, 5, []), (0, 2, [1, 1, 1, 1])] (zal (zal (zal (fun _ => a) 1 q1) 2 q2) 3 q3) (fun _ _ => 0) (yA a h) s H locs := hH
  refine lv_dup hx hb dX3_init_22 rfl ?_
  refine y_back (L := [(0, 3, [3, 4, 1, 1, 1, 1]), (1, 4, []), (1, 5, [])]) (α := (zal (zal (fun _ => a) 1 q1) 2 q2)) (M := (fun _ _ => 0)) (L1 := [(0, 3, [3, 4, 1, 1, 1, 1]), (1, 4, []), (1, 5, []), (0, 2, [6, 7, 8, 9]), (1, 5, []), (1, 5, []), (1, 405, []), (1, 405, [])]) (Lk := LQ) (Mk := yMQ) (ci := 2) (fs := [1, 1, 1, 1]) (mc := 4) (ms := 820) hH rfl hA rfl rfl (va_runI (As := []) hX.1 (ctX2_init l D cs q3 H.size) (cwI 0 hts gX3_init_X2_init rfl rfl rfl (hts (.initialized RX2) (by decide +kernel)) (hts (.methodLink RX3 20 yX2_init) (by decide +kernel)) (hts (.instanceMethod yX2_init) (by decide +kernel)) rfl (by decide +kernel) ⟨Nat.le_of_ble_eq_true rfl, Nat.le_of_ble_eq_true rfl⟩) (y_pre (L := [(0, 3, [3, 4, 1, 1, 1, 1]), (1, 4, []), (1, 5, [])]) (α := (zal (zal (fun _ => a) 1 q1) 2 q2)) hX hH rfl rfl rfl) rfl rfl (hl.1) rfl (lv_room (Nat.le_of_ble_eq_true rfl)) dX3_init_23 ⟨Nat.le_of_ble_eq_true rfl, Nat.le_of_ble_eq_true rfl⟩) (fun b4 H locs hH => ?_)
  have hH : zHv D cs [(0, 3, [3, 4, 1, 1, 1, 1]), (1, 4, []), (1, 5, []), (0, 2, [6, 7, 8, 9]), (1, 5, []), (1, 5, []), (1, 405, []), (1, 405, [])] (zca 3 (zal (zal (fun _ => a) 1 q1) 2 q2) b4) (zMc 3 (fun _ _ => 0) yMQ) (yA a h) s H locs := hH
  refine y_putr (α := (zca 3 (zal (zal (fun _ => a) 1 q1) 2 q2) b4)) (fs := [3, 4, 1, 1, 1, 1]) hX hH 0 2 3 rfl (by decide) (C := RX3) (T := TX3) (N := 6) rfl tyX3 tyX3_ok nmX3 (by decide +kernel) (by decide +kernel) (by decide) rfl rfl hnm rfl rfl (fun _ => ⟨rfl, rfl⟩) dX3_init_26 (fun H locs hH => ?_)
  have hH : zHv D cs [(0, 3, [3, 4, 5, 1, 1, 1]), (1, 4, []), (1, 5, []), (0, 2, [6, 7, 8, 9]), (1, 5, []), (1, 5, []), (1, 405, []), (1, 405, [])] (zca 3 (zal (zal (fun _ => a) 1 q1) 2 q2) b4) (zMc 3 (fun _ _ => 0) yMQ) (yA a h) s H locs := hH
  refine lv_aload_n hx hb dX3_init_29 rfl (lv_at hl 0 rfl) ?_
  refine z_bipush (v := 7) hx hb dX3_init_30 (by decide +kernel) ?_
  refine z_sipush (v := 400) hx hb dX3_init_32 (by decide +kernel) ?_
  refine y_multi (L := [(0, 3, [3, 4, 5, 1, 1, 1]), (1, 4, []), (1, 5, []), (0, 2, [6, 7, 8, 9]), (1, 5, []), (1, 5, []), (1, 405, []), (1, 405, [])]) (L1 := [(0, 3, [3, 4, 5, 1, 1, 1]), (1, 4, []), (1, 5, []), (0, 2, [6, 7, 8, 9]), (1, 5, []), (1, 5, []), (1, 405, []), (1, 405, []), (3, 4, [9, 10, 11, 12, 13, 14, 15]), (1, 400, []), (1, 400, []), (1, 400, []), (1, 400, []), (1, 400, []), (1, 400, []), (1, 400, [])]) (n := 7) (K := 400) (q0 := 4) (q1 := 0) (ty := .int) (d := (1, 400, [])) (z := (400, .inl (fun _ => 0))) hX hH rfl hA rfl rfl (by decide) (by decide) (over_moved (Vm.Alike.refl _) hZ.2.2.2.1) (by decide +kernel) (by decide +kernel) ((hX.2.2 4 _ rfl).2) ((hX.2.2 0 _ rfl).2) (by decide) rfl rfl (fun _ => rfl) (fun c => arrV_new c 400 _) rfl (Nat.le_of_ble_eq_true rfl) (Nat.le_of_ble_eq_true rfl) dX3_init_35 (fun b5 H hH => ?_)
  have hH : zHv D cs [(0, 3, [3, 4, 5, 1, 1, 1]), (1, 4, []), (1, 5, []), (0, 2, [6, 7, 8, 9]), (1, 5, []), (1, 5, []), (1, 405, []), (1, 405, []), (3, 4, [9, 10, 11, 12, 13, 14, 15]), (1, 400, []), (1, 400, []), (1, 400, []), (1, 400, []), (1, 400, []), (1, 400, []), (1, 400, [])] (zca 8 (zca 3 (zal (zal (fun _ => a) 1 q1) 2 q2) b4) b5) (zMc 8 (zMc 3 (fun _ _ => 0) yMQ) (fun _ _ => 0)) (yA a h) s H locs := hH
  refine y_putr (α := (zca 8 (zca 3 (zal (zal (fun _ => a) 1 q1) 2 q2) b4) b5)) (fs := [3, 4, 5, 1, 1, 1]) hX hH 0 3 8 rfl (by decide) (C := RX3) (T := TX3) (N := 6) rfl tyX3 tyX3_ok nmX3 (by decide +kernel) (by decide +kernel) (by decide) rfl rfl hnm rfl rfl (fun _ => ⟨rfl, rfl⟩) dX3_init_39 (fun H locs hH => ?_)
  have hH : zHv D cs [(0, 3, [3, 4, 5, 10, 1, 1]), (1, 4, []), (1, 5, []), (0, 2, [6, 7, 8, 9]), (1, 5, []), (1, 5, []), (1, 405, []), (1, 405, []), (3, 4, [9, 10, 11, 12, 13, 14, 15]), (1, 400, []), (1, 400, []), (1, 400, []), (1, 400, []), (1, 400, []), (1, 400, []), (1, 400, [])] (zca 8 (zca 3 (zal (zal (fun _ => a) 1 q1) 2 q2) b4) b5) (zMc 8 (zMc 3 (fun _ _ => 0) yMQ) (fun _ _ => 0)) (yA a h) s H locs := hH
  refine lv_aload_n hx hb dX3_init_42 rfl (lv_at hl 0 rfl) ?_
  refine y_new (ci := 1) (C := RX1) (T := TX1) (N := 2) (fs := [1, 0]) hX hH rfl hA rfl tyX1 tyX1_ok (by decide +kernel) (by decide +kernel) (by decide +kernel) (by decide +kernel) rfl rfl (fun j hj => by rcases (show j = 0 ∨ j = 1 by omega) with rfl | rfl <;> rfl) (Nat.le_of_ble_eq_true rfl) (Nat.le_of_ble_eq_true rfl) dX3_init_43 (fun q6 H hH => ?_)
  have hH : zHv D cs [(0, 3, [3, 4, 5, 10, 1, 1]), (1, 4, []), (1, 5, []), (0, 2, [6, 7, 8, 9]), (1, 5, []), (1, 5, []), (1, 405, []), (1, 405, []), (3, 4, [9, 10, 11, 12, 13, 14, 15]), (1, 400, []), (1, 400, []), (1, 400, []), (1, 400, []), (1, 400, []), (1, 400, []), (1, 400, []), (0, 1, [1, 0])] (zal (zca 8 (zca 3 (zal (zal (fun _ => a) 1 q1) 2 q2) b4) b5) 16 q6) (zMc 8 (zMc 3 (fun _ _ => 0) yMQ) (fun _ _ => 0)) (yA a h) s H locs := hH
  refine lv_dup hx hb dX3_init_46 rfl ?_
  refine y_back (L := [(0, 3, [3, 4, 5, 10, 1, 1]), (1, 4, []), (1, 5, []), (0, 2, [6, 7, 8, 9]), (1, 5, []), (1, 5, []), (1, 405, []), (1, 405, []), (3, 4, [9, 10, 11, 12, 13, 14, 15]), (1, 400, []), (1, 400, []), (1, 400, []), (1, 400, []), (1, 400, []), (1, 400, []), (1, 400, [])]) (α := (zca 8 (zca 3 (zal (zal (fun _ => a) 1 q1) 2 q2) b4) b5)) (M := (zMc 8 (zMc 3 (fun _ _ => 0) yMQ) (fun _ _ => 0))) (L1 := [(0, 3, [3, 4, 5, 10, 1, 1]), (1, 4, []), (1, 5, []), (0, 2, [6, 7, 8, 9]), (1, 5, []), (1, 5, []), (1, 405, []), (1, 405, []), (3, 4, [9, 10, 11, 12, 13, 14, 15]), (1, 400, []), (1, 400, []), (1, 400, []), (1, 400, []), (1, 400, []), (1, 400, []), (1, 400, []), (0, 1, [19, 0]), (1, 400, [])]) (Lk := LLeav) (Mk := (fun _ _ => 0)) (ci := 1) (fs := [1, 0]) (mc := 1) (ms := 400) hH rfl hA rfl rfl (va_runIN (As := []) hX.1 (ctX1_init l D cs q6 H.size) (⟨va_cnB 0 hts gX3_init_X1_init_n32 rfl rfl rfl hZ.1.1 (hts (.initialized RX1) (by decide +kernel)) ⟨by decide +kernel, by decide +kernel, by decide +kernel⟩ ⟨Nat.le_of_ble_eq_true rfl, Nat.le_of_ble_eq_true rfl⟩, rfl, hts (.instanceMethod yX1_init) (by decide +kernel)⟩) (y_pre (L := [(0, 3, [3, 4, 5, 10, 1, 1]), (1, 4, []), (1, 5, []), (0, 2, [6, 7, 8, 9]), (1, 5, []), (1, 5, []), (1, 405, []), (1, 405, []), (3, 4, [9, 10, 11, 12, 13, 14, 15]), (1, 400, []), (1, 400, []), (1, 400, []), (1, 400, []), (1, 400, []), (1, 400, []), (1, 400, [])]) (α := (zca 8 (zca 3 (zal (zal (fun _ => a) 1 q1) 2 q2) b4) b5)) hX hH rfl rfl rfl) rfl rfl (hl.1) rfl (lv_room (Nat.le_of_ble_eq_true rfl)) dX3_init_47 ⟨Nat.le_of_ble_eq_true rfl, Nat.le_of_ble_eq_true rfl⟩) (fun b7 H locs hH => ?_)
  have hH : zHv D cs [(0, 3, [3, 4, 5, 10, 1, 1]), (1, 4, []), (1, 5, []), (0, 2, [6, 7, 8, 9]), (1, 5, []), (1, 5, []), (1, 405, []), (1, 405, []), (3, 4, [9, 10, 11, 12, 13, 14, 15]), (1, 400, []), (1, 400, []), (1, 400, []), (1, 400, []), (1, 400, []), (1, 400, []), (1, 400, []), (0, 1, [19, 0]), (1, 400, [])] (zca 16 (zca 8 (zca 3 (zal (zal (fun _ => a) 1 q1) 2 q2) b4) b5) b7) (zMc 16 (zMc 8 (zMc 3 (fun _ _ => 0) yMQ) (fun _ _ => 0)) (fun _ _ => 0)) (yA a h) s H locs := hH
  refine y_putr (α := (zca 16 (zca 8 (zca 3 (zal (zal (fun _ => a) 1 q1) 2 q2) b4) b5) b7)) (fs := [3, 4, 5, 10, 1, 1]) hX hH 0 4 16 rfl (by decide) (C := RX3) (T := TX3) (N := 6) rfl tyX3 tyX3_ok nmX3 (by decide +kernel) (by decide +kernel) (by decide) rfl rfl hnm rfl rfl (fun _ => ⟨rfl, rfl⟩) dX3_init_50 (fun H locs hH => ?_)
  have hH : zHv D cs [(0, 3, [3, 4, 5, 10, 18, 1]), (1, 4, []), (1, 5, []), (0, 2, [6, 7, 8, 9]), (1, 5, []), (1, 5, []), (1, 405, []), (1, 405, []), (3, 4, [9, 10, 11, 12, 13, 14, 15]), (1, 400, []), (1, 400, []), (1, 400, []), (1, 400, []), (1, 400, []), (1, 400, []), (1, 400, []), (0, 1, [19, 0]), (1, 400, [])] (zca 16 (zca 8 (zca 3 (zal (zal (fun _ => a) 1 q1) 2 q2) b4) b5) b7) (zMc 16 (zMc 8 (zMc 3 (fun _ _ => 0) yMQ) (fun _ _ => 0)) (fun _ _ => 0)) (yA a h) s H locs := hH
  refine lv_aload_n hx hb dX3_init_53 rfl (lv_at hl 0 rfl) ?_
  refine y_new (ci := 0) (C := RX0) (T := TX0) (N := 3) (fs := [1, 1, 0]) hX hH rfl hA rfl tyX0 tyX0_ok (by decide +kernel) (by decide +kernel) (by decide +kernel) (by decide +kernel) rfl rfl (fun j hj => by rcases (show j = 0 ∨ j = 1 ∨ j = 2 by omega) with rfl | rfl | rfl <;> rfl) (Nat.le_of_ble_eq_true rfl) (Nat.le_of_ble_eq_true rfl) dX3_init_54 (fun q8 H hH => ?_)
  have hH : zHv D cs [(0, 3, [3, 4, 5, 10, 18, 1]), (1, 4, []), (1, 5, []), (0, 2, [6, 7, 8, 9]), (1, 5, []), (1, 5, []), (1, 405, []), (1, 405, []), (3, 4, [9, 10, 11, 12, 13, 14, 15]), (1, 400, []), (1, 400, []), (1, 400, []), (1, 400, []), (1, 400, []), (1, 400, []), (1, 400, []), (0, 1, [19, 0]), (1, 400, []), (0, 0, [1, 1, 0])] (zal (zca 16 (zca 8 (zca 3 (zal (zal (fun _ => a) 1 q1) 2 q2) b4) b5) b7) 18 q8) (zMc 16 (zMc 8 (zMc 3 (fun _ _ => 0) yMQ) (fun _ _ => 0)) (fun _ _ => 0)) (yA a h) s H locs := hH
  refine lv_dup hx hb dX3_init_57 rfl ?_
  refine y_back (L := [(0, 3, [3, 4, 5, 10, 18, 1]), (1, 4, []), (1, 5, []), (0, 2, [6, 7, 8, 9]), (1, 5, []), (1, 5, []), (1, 405, []), (1, 405, []), (3, 4, [9, 10, 11, 12, 13, 14, 15]), (1, 400, []), (1, 400, []), (1, 400, []), (1, 400, []), (1, 400, []), (1, 400, []), (1, 400, []), (0, 1, [19, 0]), (1, 400, [])]) (α := (zca 16 (zca 8 (zca 3 (zal (zal (fun _ => a) 1 q1) 2 q2) b4) b5) b7)) (M := (zMc 16 (zMc 8 (zMc 3 (fun _ _ => 0) yMQ) (fun _ _ => 0)) (fun _ _ => 0))) (L1 := [(0, 3, [3, 4, 5, 10, 18, 1]), (1, 4, []), (1, 5, []), (0, 2, [6, 7, 8, 9]), (1, 5, []), (1, 5, []), (1, 405, []), (1, 405, []), (3, 4, [9, 10, 11, 12, 13, 14, 15]), (1, 400, []), (1, 400, []), (1, 400, []), (1, 400, []), (1, 400, []), (1, 400, []), (1, 400, []), (0, 1, [19, 0]), (1, 400, []), (0, 0, [21, 22, 0]), (1, 8, []), (1, 8, [])]) (Lk := LBook) (Mk := (fun _ _ => 0)) (ci := 0) (fs := [1, 1, 0]) (mc := 2) (ms := 16) hH rfl hA rfl rfl (va_runIN (As := []) hX.1 (ctX0_init l D cs q8 H.size) (⟨va_cnB 0 hts gX3_init_X0_init_n39 rfl rfl rfl hZ.1.2.1 (hts (.initialized RX0) (by decide +kernel)) ⟨by decide +kernel, by decide +kernel, by decide +kernel⟩ ⟨Nat.le_of_ble_eq_true rfl, Nat.le_of_ble_eq_true rfl⟩, rfl, hts (.instanceMethod yX0_init) (by decide +kernel)⟩) (y_pre (L := [(0, 3, [3, 4, 5, 10, 18, 1]), (1, 4, []), (1, 5, []), (0, 2, [6, 7, 8, 9]), (1, 5, []), (1, 5, []), (1, 405, []), (1, 405, []), (3, 4, [9, 10, 11, 12, 13, 14, 15]), (1, 400, []), (1, 400, []), (1, 400, []), (1, 400, []), (1, 400, []), (1, 400, []), (1, 400, []), (0, 1, [19, 0]), (1, 400, [])]) (α := (zca 16 (zca 8 (zca 3 (zal (zal (fun _ => a) 1 q1) 2 q2) b4) b5) b7)) hX hH rfl rfl rfl) rfl rfl (hl.1) rfl (lv_room (Nat.le_of_ble_eq_true rfl)) dX3_init_58 ⟨Nat.le_of_ble_eq_true rfl, Nat.le_of_ble_eq_true rfl⟩) (fun b9 H locs hH => ?_)
  have hH : zHv D cs [(0, 3, [3, 4, 5, 10, 18, 1]), (1, 4, []), (1, 5, []), (0, 2, [6, 7, 8, 9]), (1, 5, []), (1, 5, []), (1, 405, []), (1, 405, []), (3, 4, [9, 10, 11, 12, 13, 14, 15]), (1, 400, []), (1, 400, []), (1, 400, []), (1, 400, []), (1, 400, []), (1, 400, []), (1, 400, []), (0, 1, [19, 0]), (1, 400, []), (0, 0, [21, 22, 0]), (1, 8, []), (1, 8, [])] (zca 18 (zca 16 (zca 8 (zca 3 (zal (zal (fun _ => a) 1 q1) 2 q2) b4) b5) b7) b9) (zMc 18 (zMc 16 (zMc 8 (zMc 3 (fun _ _ => 0) yMQ) (fun _ _ => 0)) (fun _ _ => 0)) (fun _ _ => 0)) (yA a h) s H locs := hH
  refine y_putr (α := (zca 18 (zca 16 (zca 8 (zca 3 (zal (zal (fun _ => a) 1 q1) 2 q2) b4) b5) b7) b9)) (fs := [3, 4, 5, 10, 18, 1]) hX hH 0 5 18 rfl (by decide) (C := RX3) (T := TX3) (N := 6) rfl tyX3 tyX3_ok nmX3 (by decide +kernel) (by decide +kernel) (by decide) rfl rfl hnm rfl rfl (fun _ => ⟨rfl, rfl⟩) dX3_init_61 (fun H locs hH => ?_)
  have hH : zHv D cs [(0, 3, [3, 4, 5, 10, 18, 20]), (1, 4, []), (1, 5, []), (0, 2, [6, 7, 8, 9]), (1, 5, []), (1, 5, []), (1, 405, []), (1, 405, []), (3, 4, [9, 10, 11, 12, 13, 14, 15]), (1, 400, []), (1, 400, []), (1, 400, []), (1, 400, []), (1, 400, []), (1, 400, []), (1, 400, []), (0, 1, [19, 0]), (1, 400, []), (0, 0, [21, 22, 0]), (1, 8, []), (1, 8, [])] (zca 18 (zca 16 (zca 8 (zca 3 (zal (zal (fun _ => a) 1 q1) 2 q2) b4) b5) b7) b9) (zMc 18 (zMc 16 (zMc 8 (zMc 3 (fun _ _ => 0) yMQ) (fun _ _ => 0)) (fun _ _ => 0)) (fun _ _ => 0)) (yA a h) s H locs := hH
  refine lv_aload_n hx hb dX3_init_64 rfl (lv_at hl 0 rfl) ?_
  refine y_getr (α := (zca 18 (zca 16 (zca 8 (zca 3 (zal (zal (fun _ => a) 1 q1) 2 q2) b4) b5) b7) b9)) (fs := [3, 4, 5, 10, 18, 20]) hX hH 0 0 1 rfl rfl ⟨_, TX3, _, rfl, by decide +kernel, by decide +kernel, by decide, rfl⟩ dX3_init_65 ?_
  refine z_iconst hx hb dX3_init_68 ?_
  refine z_bipush (v := 20) hx hb dX3_init_69 (by decide +kernel) ?_
  refine y_iast (α := (zca 18 (zca 16 (zca 8 (zca 3 (zal (zal (fun _ => a) 1 q1) 2 q2) b4) b5) b7) b9)) (M := (zMc 18 (zMc 16 (zMc 8 (zMc 3 (fun _ _ => 0) yMQ) (fun _ _ => 0)) (fun _ _ => 0)) (fun _ _ => 0))) (i := 0) (i0 := 0) (v := 20) hX hH 1 4 rfl rfl (by decide) (by decide) dX3_init_71 (fun H locs hH => ?_)
  have hH : zHv D cs [(0, 3, [3, 4, 5, 10, 18, 20]), (1, 4, []), (1, 5, []), (0, 2, [6, 7, 8, 9]), (1, 5, []), (1, 5, []), (1, 405, []), (1, 405, []), (3, 4, [9, 10, 11, 12, 13, 14, 15]), (1, 400, []), (1, 400, []), (1, 400, []), (1, 400, []), (1, 400, []), (1, 400, []), (1, 400, []), (0, 1, [19, 0]), (1, 400, []), (0, 0, [21, 22, 0]), (1, 8, []), (1, 8, [])] (zca 18 (zca 16 (zca 8 (zca 3 (zal (zal (fun _ => a) 1 q1) 2 q2) b4) b5) b7) b9) (zup (zMc 18 (zMc 16 (zMc 8 (zMc 3 (fun _ _ => 0) yMQ) (fun _ _ => 0)) (fun _ _ => 0)) (fun _ _ => 0)) 1 0 20) (yA a h) s H locs := hH
  refine lv_aload_n hx hb dX3_init_72 rfl (lv_at hl 0 rfl) ?_
  refine y_getr (α := (zca 18 (zca 16 (zca 8 (zca 3 (zal (zal (fun _ => a) 1 q1) 2 q2) b4) b5) b7) b9)) (fs := [3, 4, 5, 10, 18, 20]) hX hH 0 0 1 rfl rfl ⟨_, TX3, _, rfl, by decide +kernel, by decide +kernel, by decide, rfl⟩ dX3_init_73 ?_
  refine z_iconst hx hb dX3_init_76 ?_
  refine z_bipush (v := 10) hx hb dX3_init_77 (by decide +kernel) ?_
  refine y_iast (α := (zca 18 (zca 16 (zca 8 (zca 3 (zal (zal (fun _ => a) 1 q1) 2 q2) b4) b5) b7) b9)) (M := (zup (zMc 18 (zMc 16 (zMc 8 (zMc 3 (fun _ _ => 0) yMQ) (fun _ _ => 0)) (fun _ _ => 0)) (fun _ _ => 0)) 1 0 20)) (i := 1) (i0 := 1) (v := 10) hX hH 1 4 rfl rfl (by decide) (by decide) dX3_init_79 (fun H locs hH => ?_)
  have hH : zHv D cs [(0, 3, [3, 4, 5, 10, 18, 20]), (1, 4, []), (1, 5, []), (0, 2, [6, 7, 8, 9]), (1, 5, []), (1, 5, []), (1, 405, []), (1, 405, []), (3, 4, [9, 10, 11, 12, 13, 14, 15]), (1, 400, []), (1, 400, []), (1, 400, []), (1, 400, []), (1, 400, []), (1, 400, []), (1, 400, []), (0, 1, [19, 0]), (1, 400, []), (0, 0, [21, 22, 0]), (1, 8, []), (1, 8, [])] (zca 18 (zca 16 (zca 8 (zca 3 (zal (zal (fun _ => a) 1 q1) 2 q2) b4) b5) b7) b9) (zup (zup (zMc 18 (zMc 16 (zMc 8 (zMc 3 (fun _ _ => 0) yMQ) (fun _ _ => 0)) (fun _ _ => 0)) (fun _ _ => 0)) 1 0 20) 1 1 10) (yA a h) s H locs := hH
  refine lv_aload_n hx hb dX3_init_80 rfl (lv_at hl 0 rfl) ?_
  refine y_getr (α := (zca 18 (zca 16 (zca 8 (zca 3 (zal (zal (fun _ => a) 1 q1) 2 q2) b4) b5) b7) b9)) (fs := [3, 4, 5, 10, 18, 20]) hX hH 0 0 1 rfl rfl ⟨_, TX3, _, rfl, by decide +kernel, by decide +kernel, by decide, rfl⟩ dX3_init_81 ?_
  refine z_iconst hx hb dX3_init_84 ?_
  refine z_iconst hx hb dX3_init_85 ?_
  refine y_iast (α := (zca 18 (zca 16 (zca 8 (zca 3 (zal (zal (fun _ => a) 1 q1) 2 q2) b4) b5) b7) b9)) (M := (zup (zup (zMc 18 (zMc 16 (zMc 8 (zMc 3 (fun _ _ => 0) yMQ) (fun _ _ => 0)) (fun _ _ => 0)) (fun _ _ => 0)) 1 0 20) 1 1 10)) (i := 2) (i0 := 2) (v := 2) hX hH 1 4 rfl rfl (by decide) (by decide) dX3_init_86 (fun H locs hH => ?_)
  have hH : zHv D cs [(0, 3, [3, 4, 5, 10, 18, 20]), (1, 4, []), (1, 5, []), (0, 2, [6, 7, 8, 9]), (1, 5, []), (1, 5, []), (1, 405, []), (1, 405, []), (3, 4, [9, 10, 11, 12, 13, 14, 15]), (1, 400, []), (1, 400, []), (1, 400, []), (1, 400, []), (1, 400, []), (1, 400, []), (1, 400, []), (0, 1, [19, 0]), (1, 400, []), (0, 0, [21, 22, 0]), (1, 8, []), (1, 8, [])] (zca 18 (zca 16 (zca 8 (zca 3 (zal (zal (fun _ => a) 1 q1) 2 q2) b4) b5) b7) b9) (zup (zup (zup (zMc 18 (zMc 16 (zMc 8 (zMc 3 (fun _ _ => 0) yMQ) (fun _ _ => 0)) (fun _ _ => 0)) (fun _ _ => 0)) 1 0 20) 1 1 10) 1 2 2) (yA a h) s H locs := hH
  refine lv_aload_n hx hb dX3_init_87 rfl (lv_at hl 0 rfl) ?_
  refine y_getr (α := (zca 18 (zca 16 (zca 8 (zca 3 (zal (zal (fun _ => a) 1 q1) 2 q2) b4) b5) b7) b9)) (fs := [3, 4, 5, 10, 18, 20]) hX hH 0 0 1 rfl rfl ⟨_, TX3, _, rfl, by decide +kernel, by decide +kernel, by decide, rfl⟩ dX3_init_88 ?_
  refine z_iconst hx hb dX3_init_91 ?_
  refine z_iconst hx hb dX3_init_92 ?_
  refine y_iast (α := (zca 18 (zca 16 (zca 8 (zca 3 (zal (zal (fun _ => a) 1 q1) 2 q2) b4) b5) b7) b9)) (M := (zup (zup (zup (zMc 18 (zMc 16 (zMc 8 (zMc 3 (fun _ _ => 0) yMQ) (fun _ _ => 0)) (fun _ _ => 0)) (fun _ _ => 0)) 1 0 20) 1 1 10) 1 2 2)) (i := 3) (i0 := 3) (v := 1) hX hH 1 4 rfl rfl (by decide) (by decide) dX3_init_93 (fun H locs hH => ?_)
  have hH : zHv D cs [(0, 3, [3, 4, 5, 10, 18, 20]), (1, 4, []), (1, 5, []), (0, 2, [6, 7, 8, 9]), (1, 5, []), (1, 5, []), (1, 405, []), (1, 405, []), (3, 4, [9, 10, 11, 12, 13, 14, 15]), (1, 400, []), (1, 400, []), (1, 400, []), (1, 400, []), (1, 400, []), (1, 400, []), (1, 400, []), (0, 1, [19, 0]), (1, 400, []), (0, 0, [21, 22, 0]), (1, 8, []), (1, 8, [])] (zca 18 (zca 16 (zca 8 (zca 3 (zal (zal (fun _ => a) 1 q1) 2 q2) b4) b5) b7) b9) (zup (zup (zup (zup (zMc 18 (zMc 16 (zMc 8 (zMc 3 (fun _ _ => 0) yMQ) (fun _ _ => 0)) (fun _ _ => 0)) (fun _ _ => 0)) 1 0 20) 1 1 10) 1 2 2) 1 3 1) (yA a h) s H locs := hH
  exact y_vret hX hr hlocks hH rfl dX3_init_94
