/-! the constructors -/
set_option maxHeartbeats 4000000 in
set_option maxRecDepth 100000 in
theorem ctX0_init (l : Launch) (D : va_G) (cs : Nat → ClassId) (a h : Nat) : Met l yX0_init wsX0_init ({ frames := 1, cells := 2, slots := 16, locals := 40 }) (yPre D cs 0 [1, 1, 0] a h) (yQ D cs LBook (fun _ _ => 0) a h) 2 16 (yA a h) := by
  refine y_met (cc := cX0_init) (maxL := 1) (by decide +kernel) rfl RX0 rfl (by decide) ?_
  intro p e s m below meth c ls hX hr hlocks hnm hz hH hl
  have hx := hX.1.1
  have hb := hX.1.2.1
  have hts := hX.1.2.2.2.2
  have hown := hX.1.2.2.2.1
  have hl : lv_has ls 1 [(0, .ref a)] := hl
  have hA : ∀ q, s.heap.size ≤ q → yA a h q := fun q hq => Or.inr (by rw [← hz]; exact hq)
  refine lv_aload_n hx hb dX0_init_0 rfl (lv_at hl 0 rfl) ?_
  refine W.objInit hx hb hown (hts (.methodLink RX0 3 objectInit) (by decide +kernel)) (hts (.instanceMethod objectInit) (by decide +kernel)) (hts (.code objectInit ⟨#[0xb1]⟩ 1 none) (by decide +kernel)) rfl (by rw [hX.1.2.2.1]; exact hl.1) rfl dX0_init_1 (by decide) (Nat.le_of_ble_eq_true rfl) ?_
  refine lv_aload_n hx hb dX0_init_4 rfl (lv_at hl 0 rfl) ?_
  refine z_bipush (v := 8) hx hb dX0_init_5 (by decide +kernel) ?_
  refine y_newi hX hH rfl hA (n := 8) rfl (by decide) (by decide +kernel) rfl (by decide) (by decide) dX0_init_7 (fun q1 H1 hH => ?_)
  refine y_putr (α := zal (fun _ => a) 1 q1) (fs := [1, 1, 0]) hX hH 0 0 1 rfl (by decide) (C := RX0) (T := TX0) (N := 3) rfl tyX0 tyX0_ok nmX0 (by decide +kernel) (by decide +kernel) (by decide) rfl rfl hnm rfl rfl (fun _ => ⟨rfl, rfl⟩) dX0_init_9 (fun H1 locs1 hH => ?_)
  refine lv_aload_n hx hb dX0_init_12 rfl (lv_at hl 0 rfl) ?_
  refine z_bipush (v := 8) hx hb dX0_init_13 (by decide +kernel) ?_
  refine y_newi hX hH rfl hA (n := 8) rfl (by decide) (by decide +kernel) rfl (by decide) (by decide) dX0_init_15 (fun q2 H1 hH => ?_)
  refine y_putr (α := zal (zal (fun _ => a) 1 q1) 2 q2) (fs := [3, 1, 0]) hX hH 0 1 2 rfl (by decide) (C := RX0) (T := TX0) (N := 3) rfl tyX0 tyX0_ok nmX0 (by decide +kernel) (by decide +kernel) (by decide) rfl rfl hnm rfl rfl (fun _ => ⟨rfl, rfl⟩) dX0_init_17 (fun H1 locs1 hH => ?_)
  exact y_vret hX hr hlocks hH rfl dX0_init_20
set_option maxHeartbeats 4000000 in
set_option maxRecDepth 100000 in
theorem ctX1_init (l : Launch) (D : va_G) (cs : Nat → ClassId) (a h : Nat) : Met l yX1_init wsX1_init ({ frames := 1, cells := 1, slots := 400, locals := 40 }) (yPre D cs 1 [1, 0] a h) (yQ D cs LLeav (fun _ _ => 0) a h) 1 400 (yA a h) := by
  refine y_met (cc := cX1_init) (maxL := 1) (by decide +kernel) rfl RX1 rfl (by decide) ?_
  intro p e s m below meth c ls hX hr hlocks hnm hz hH hl
  have hx := hX.1.1
  have hb := hX.1.2.1
  have hts := hX.1.2.2.2.2
  have hown := hX.1.2.2.2.1
  have hl : lv_has ls 1 [(0, .ref a)] := hl
  have hA : ∀ q, s.heap.size ≤ q → yA a h q := fun q hq => Or.inr (by rw [← hz]; exact hq)
  refine lv_aload_n hx hb dX1_init_0 rfl (lv_at hl 0 rfl) ?_
  refine W.objInit hx hb hown (hts (.methodLink RX1 3 objectInit) (by decide +kernel)) (hts (.instanceMethod objectInit) (by decide +kernel)) (hts (.code objectInit ⟨#[0xb1]⟩ 1 none) (by decide +kernel)) rfl (by rw [hX.1.2.2.1]; exact hl.1) rfl dX1_init_1 (by decide) (Nat.le_of_ble_eq_true rfl) ?_
  refine lv_aload_n hx hb dX1_init_4 rfl (lv_at hl 0 rfl) ?_
  refine z_sipush (v := 400) hx hb dX1_init_5 (by decide +kernel) ?_
  refine y_newi hX hH rfl hA (n := 400) rfl (by decide) (by decide +kernel) rfl (by decide) (by decide) dX1_init_8 (fun q1 H1 hH => ?_)
  refine y_putr (α := (zal (fun _ => a) 1 q1)) (fs := [1, 0]) hX hH 0 0 1 rfl (by decide) (C := RX1) (T := TX1) (N := 2) rfl tyX1 tyX1_ok nmX1 (by decide +kernel) (by decide +kernel) (by decide) rfl rfl hnm rfl rfl (fun _ => ⟨rfl, rfl⟩) dX1_init_10 (fun H1 locs1 hH => ?_)
  exact y_vret hX hr hlocks hH rfl dX1_init_13
set_option maxHeartbeats 4000000 in
set_option maxRecDepth 100000 in
theorem ctX5_init (l : Launch) (D : va_G) (cs : Nat → ClassId) (a h : Nat) : Met l yX5_init wsX5_init ({ frames := 1, cells := 1, slots := 100, locals := 40 }) (yPre D cs 5 [1, 0, 0] a h) (yQ D cs LTx (fun _ _ => 0) a h) 1 100 (yA a h) := by
  refine y_met (cc := cX5_init) (maxL := 1) (by decide +kernel) rfl RX5 rfl (by decide) ?_
  intro p e s m below meth c ls hX hr hlocks hnm hz hH hl
  have hx := hX.1.1
  have hb := hX.1.2.1
  have hts := hX.1.2.2.2.2
  have hown := hX.1.2.2.2.1
  have hl : lv_has ls 1 [(0, .ref a)] := hl
  have hA : ∀ q, s.heap.size ≤ q → yA a h q := fun q hq => Or.inr (by rw [← hz]; exact hq)
  refine lv_aload_n hx hb dX5_init_0 rfl (lv_at hl 0 rfl) ?_
  refine W.objInit hx hb hown (hts (.methodLink RX5 3 objectInit) (by decide +kernel)) (hts (.instanceMethod objectInit) (by decide +kernel)) (hts (.code objectInit ⟨#[0xb1]⟩ 1 none) (by decide +kernel)) rfl (by rw [hX.1.2.2.1]; exact hl.1) rfl dX5_init_1 (by decide) (Nat.le_of_ble_eq_true rfl) ?_
  refine lv_aload_n hx hb dX5_init_4 rfl (lv_at hl 0 rfl) ?_
  refine z_bipush (v := 100) hx hb dX5_init_5 (by decide +kernel) ?_
  refine y_newi hX hH rfl hA (n := 100) rfl (by decide) (by decide +kernel) rfl (by decide) (by decide) dX5_init_7 (fun q1 H1 hH => ?_)
  refine y_putr (α := (zal (fun _ => a) 1 q1)) (fs := [1, 0, 0]) hX hH 0 0 1 rfl (by decide) (C := RX5) (T := TX5) (N := 3) rfl tyX5 tyX5_ok nmX5 (by decide +kernel) (by decide +kernel) (by decide) rfl rfl hnm rfl rfl (fun _ => ⟨rfl, rfl⟩) dX5_init_9 (fun H1 locs1 hH => ?_)
  exact y_vret hX hr hlocks hH rfl dX5_init_12
set_option maxHeartbeats 4000000 in
set_option maxRecDepth 100000 in
theorem ctX6_init (l : Launch) (D : va_G) (cs : Nat → ClassId) (a h : Nat) : Met l yX6_init wsX6_init ({ frames := 1, cells := 3, slots := 60, locals := 40 }) (yPre D cs 6 [1, 1, 1, 0] a h) (yQ D cs LTr (fun _ _ => 0) a h) 3 60 (yA a h) := by
  refine y_met (cc := cX6_init) (maxL := 1) (by decide +kernel) rfl RX6 rfl (by decide) ?_
  intro p e s m below meth c ls hX hr hlocks hnm hz hH hl
  have hx := hX.1.1
  have hb := hX.1.2.1
  have hts := hX.1.2.2.2.2
  have hown := hX.1.2.2.2.1
  have hl : lv_has ls 1 [(0, .ref a)] := hl
  have hA : ∀ q, s.heap.size ≤ q → yA a h q := fun q hq => Or.inr (by rw [← hz]; exact hq)
  refine lv_aload_n hx hb dX6_init_0 rfl (lv_at hl 0 rfl) ?_
  refine W.objInit hx hb hown (hts (.methodLink RX6 3 objectInit) (by decide +kernel)) (hts (.instanceMethod objectInit) (by decide +kernel)) (hts (.code objectInit ⟨#[0xb1]⟩ 1 none) (by decide +kernel)) rfl (by rw [hX.1.2.2.1]; exact hl.1) rfl dX6_init_1 (by decide) (Nat.le_of_ble_eq_true rfl) ?_
  refine lv_aload_n hx hb dX6_init_4 rfl (lv_at hl 0 rfl) ?_
  refine z_bipush (v := 20) hx hb dX6_init_5 (by decide +kernel) ?_
  refine y_newi hX hH rfl hA (n := 20) rfl (by decide) (by decide +kernel) rfl (by decide) (by decide) dX6_init_7 (fun q1 H1 hH => ?_)
  refine y_putr (α := (zal (fun _ => a) 1 q1)) (fs := [1, 1, 1, 0]) hX hH 0 0 1 rfl (by decide) (C := RX6) (T := TX6) (N := 4) rfl tyX6 tyX6_ok nmX6 (by decide +kernel) (by decide +kernel) (by decide) rfl rfl hnm rfl rfl (fun _ => ⟨rfl, rfl⟩) dX6_init_9 (fun H1 locs1 hH => ?_)
  refine lv_aload_n hx hb dX6_init_12 rfl (lv_at hl 0 rfl) ?_
  refine z_bipush (v := 20) hx hb dX6_init_13 (by decide +kernel) ?_
  refine y_newi hX hH rfl hA (n := 20) rfl (by decide) (by decide +kernel) rfl (by decide) (by decide) dX6_init_15 (fun q2 H1 hH => ?_)
  refine y_putr (α := (zal (zal (fun _ => a) 1 q1) 2 q2)) (fs := [3, 1, 1, 0]) hX hH 0 1 2 rfl (by decide) (C := RX6) (T := TX6) (N := 4) rfl tyX6 tyX6_ok nmX6 (by decide +kernel) (by decide +kernel) (by decide) rfl rfl hnm rfl rfl (fun _ => ⟨rfl, rfl⟩) dX6_init_17 (fun H1 locs1 hH => ?_)
  refine lv_aload_n hx hb dX6_init_20 rfl (lv_at hl 0 rfl) ?_
  refine z_bipush (v := 20) hx hb dX6_init_21 (by decide +kernel) ?_
  refine y_newi hX hH rfl hA (n := 20) rfl (by decide) (by decide +kernel) rfl (by decide) (by decide) dX6_init_23 (fun q3 H1 hH => ?_)
  refine y_putr (α := (zal (zal (zal (fun _ => a) 1 q1) 2 q2) 3 q3)) (fs := [3, 4, 1, 0]) hX hH 0 2 3 rfl (by decide) (C := RX6) (T := TX6) (N := 4) rfl tyX6 tyX6_ok nmX6 (by decide +kernel) (by decide +kernel) (by decide) rfl rfl hnm rfl rfl (fun _ => ⟨rfl, rfl⟩) dX6_init_25 (fun H1 locs1 hH => ?_)
  exact y_vret hX hr hlocks hH rfl dX6_init_28
set_option maxHeartbeats 4000000 in
set_option maxRecDepth 100000 in
theorem ctX4_init (l : Launch) (D : va_G) (cs : Nat → ClassId) (a h : Nat) : Met l yX4_init wsX4_init ({ frames := 1, cells := 1, slots := 60, locals := 40 }) (yPre D cs 4 [1, 0, 0] a h) (yQ D cs LTp (zup (fun _ _ => 0) 0 1 (-1)) a h) 1 60 (yA a h) := by
  refine y_met (cc := cX4_init) (maxL := 1) (by decide +kernel) rfl RX4 rfl (by decide) ?_
  intro p e s m below meth c ls hX hr hlocks hnm hz hH hl
  have hx := hX.1.1
  have hb := hX.1.2.1
  have hts := hX.1.2.2.2.2
  have hown := hX.1.2.2.2.1
  have hl : lv_has ls 1 [(0, .ref a)] := hl
  have hA : ∀ q, s.heap.size ≤ q → yA a h q := fun q hq => Or.inr (by rw [← hz]; exact hq)
  refine lv_aload_n hx hb dX4_init_0 rfl (lv_at hl 0 rfl) ?_
  refine W.objInit hx hb hown (hts (.methodLink RX4 3 objectInit) (by decide +kernel)) (hts (.instanceMethod objectInit) (by decide +kernel)) (hts (.code objectInit ⟨#[0xb1]⟩ 1 none) (by decide +kernel)) rfl (by rw [hX.1.2.2.1]; exact hl.1) rfl dX4_init_1 (by decide) (Nat.le_of_ble_eq_true rfl) ?_
  refine lv_aload_n hx hb dX4_init_4 rfl (lv_at hl 0 rfl) ?_
  refine z_bipush (v := 60) hx hb dX4_init_5 (by decide +kernel) ?_
  refine y_newl hX hH rfl hA (n := 60) rfl (by decide) (by decide +kernel) rfl (by decide) (by decide) dX4_init_7 (fun q1 H1 hH => ?_)
  refine y_putr (α := (zal (fun _ => a) 1 q1)) (fs := [1, 0, 0]) hX hH 0 0 1 rfl (by decide) (C := RX4) (T := TX4) (N := 3) rfl tyX4 tyX4_ok nmX4 (by decide +kernel) (by decide +kernel) (by decide) rfl rfl hnm rfl rfl (fun _ => ⟨rfl, rfl⟩) dX4_init_9 (fun H1 locs1 hH => ?_)
  refine lv_aload_n hx hb dX4_init_12 rfl (lv_at hl 0 rfl) ?_
  refine z_iconst hx hb dX4_init_13 ?_
  refine y_puti (ty := .int) (v := -1) (α := (zal (fun _ => a) 1 q1)) hX hH 0 1 rfl rfl (fs := [3, 0, 0]) rfl ⟨_, TX4, _, tyX4, rfl, by decide +kernel, by decide +kernel, by decide, rfl, tyX4_ok, nmX4, rfl, by decide +kernel⟩ rfl rfl dX4_init_14 (fun H1 locs1 hH => ?_)
  exact y_vret hX hr hlocks hH rfl dX4_init_17
