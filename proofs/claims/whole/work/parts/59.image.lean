/-! the image, taken for the first time: the kept store is made -/
def yI (α : Nat → Nat) (h : Nat) : Nat → Prop := fun q => (∃ k, k < 83 ∧ q = α k) ∨ h ≤ q
def yPreI (D : va_G) (cs : Nat → ClassId) (α : Nat → Nat) (M : zM) (h : Nat) : Array Value → State → Prop := va_Pc [.ref (α 0)] (fun U => va_P D vwCl (zw cs (LX false) α M) U.heap ∧ va_K D vwCl (zt cs) U ∧ va_D (fun _ => True) (zw cs (LX false) α M) ∧ U.heap.size = h ∧ yZ U)
def yQI (D : va_G) (cs : Nat → ClassId) (α : Nat → Nat) (r : Int) (M' : zM) (h : Nat) : Array Value → State → Outcome → State → Prop := va_Qi (S := Nat → Nat) (fun x β => x = nZ r ∧ (∀ k, k < 83 → β k = α k) ∧ ∀ k, 83 ≤ k → k < 104 → h ≤ β k) (fun β t => va_P D vwCl (zw cs (LX true) β M') t.heap ∧ va_D (fun _ => True) (zw cs (LX true) β M')) (yI α h)
theorem yPreI_blind {D : va_G} {cs : Nat → ClassId} {α : Nat → Nat} {M : zM} {h : Nat} : FrameBlind (yPreI D cs α M h) := fun b U g mk q => by
  obtain ⟨q0, qP, qK, qD, qH, qZ⟩ := q
  exact ⟨q0, qP, va_K.moved (u := U) (U := U.calling g mk b) (Vm.Alike.refl U.vm) qK, qD, qH, yZ_same (u := U) (U := U.calling g mk b) rfl qZ⟩
theorem yLX_len : (LX false).length = 83 := rfl
theorem yLX_lent : (LX true).length = 104 := rfl
theorem yLX_4 (κ : Bool) : (LX κ).all (fun d => decide (d.1 ≠ 4)) = true := by cases κ <;> decide +kernel
theorem yLX_push : (LX false ++ LSt.map (zshf 83)).set 0 (0, 7, [3, 24, 85, 45, 47, 0, 72]) = LX true := by decide +kernel
theorem zw_congr {cs : Nat → ClassId} {L : List zD} {α α' : Nat → Nat} {M M' : zM} (hL : zrs L = true) (h : ∀ k, k < L.length → M k = M' k) (ha : ∀ k, k < L.length → α k = α' k) : zv cs L α M = zv cs L α' M' := by
  apply List.ext_getElem?
  intro j
  by_cases hj : j < L.length
  · obtain ⟨d, hd⟩ : ∃ d, L[j]? = some d := ⟨_, List.getElem?_eq_getElem hj⟩
    rw [zv_at hd, zv_at hd, h j hj, ha j hj, zce'_al (n := L.length) ha (List.all_eq_true.mp hL d (List.mem_of_getElem? hd))]
  · rw [List.getElem?_eq_none (by rw [zv_len]; omega), List.getElem?_eq_none (by rw [zv_len]; omega)]
set_option maxHeartbeats 40000000 in
set_option maxRecDepth 100000 in
theorem ctX7_image_f (l : Launch) (D : va_G) (cs : Nat → ClassId) (α : Nat → Nat) (N : Nat) (M : zM) (h : Nat) (r : Int) (M' : zM) (hF : fX7_image_t N (zMc 83 (zMc 83 M (fun _ _ => 0)) yMS) = some (r, M')) : Met l yX7_image wsX7_image ({ frames := 3, cells := 21, slots := 4067, locals := 110 }) (yPreI D cs α M h) (yQI D cs α r M' h) 21 4067 (yI α h) := by
  refine Met.ofW (cc := cX7_image) (maxL := 1) (ret := (some .int)) (by decide +kernel) rfl ?_
  intro p e s m args below meth c s₁ B hml hv
  obtain ⟨rfl, hP, hK, hD0, hz, hZ⟩ := hv
  rw [lg_entry_eq]
  have hown : s.vm.findClass RX7 = some m.cls := findClass_of_methodNamed B.named
  have hX : zX p s m ([.ref (α 0)] : List Value).toArray c cX7_image 1 D cs RX7 wsX7_image := ⟨⟨B.exec, B.bytes, hml, hown, atoms_spec (ws := wsX7_image) B.pre⟩, hK⟩
  have hr := B.returns
  have hlocks := B.notSynchronized
  have hx := hX.1.1
  have hb := hX.1.2.1
  have hts := hX.1.2.2.2.2
  have hl : lv_has _ 1 (lv_args 0 [.ref (α 0)]) := lv_entry ([.ref (α 0)]) (n := 1) (Nat.le_of_ble_eq_true rfl)
  generalize (lg_sl ([.ref (α 0)]) ++ List.replicate (1 - (lg_sl ([.ref (α 0)])).length) Slot.unset).toArray = ls at hl ⊢
  have hl : lv_has ls 1 [(0, .ref (α 0))] := hl
  have hA : ∀ q, s.heap.size ≤ q → yI α h q := fun q hq => Or.inr (by rw [← hz]; exact hq)
  have hM1 : zv cs (LX false) α M = zv cs (LX false) α (zMc 83 M (fun _ _ => 0)) := zv_congr (fun k hk => by
    have : k < 83 := hk
    unfold zMc
    rw [if_pos this])
  have hP : va_P D vwCl (zw cs (LX false) α M) s.heap := hP
  rw [← zv_zw (yLX_4 false), hM1] at hP hD0
  have hH : zHv D cs (LX false) α (zMc 83 M (fun _ _ => 0)) (yI α h) s s.heap [] := ⟨hP, hD0.weaken (fun k q hk _ => by
    obtain ⟨d, hd, rfl⟩ := zv_of hk
    exact Or.inl ⟨k, (List.getElem?_eq_some_iff.mp hd).1, rfl⟩), va_S.rf⟩
  generalize hHs : s.heap = H at hH ⊢
  generalize hls : ([] : List Loc) = locs at hH ⊢
  refine lv_aload_n hx hb dX7_image_0 rfl (lv_at hl 0 rfl) ?_
  have hHw : zH D cs (LX false) α (zMc 83 M (fun _ _ => 0)) (yI α h) s H locs := by
    obtain ⟨a1, a2, a3⟩ := hH
    rw [zv_zw (yLX_4 false)] at a1 a2
    exact ⟨a1, a2, a3⟩
  refine z_getn hX hHw 0 2 rfl rfl flX7_image_193 dX7_image_1 ?_
  refine lv_ifnonnullN hx hb dX7_image_4 ?_
  refine lv_aload_n hx hb dX7_image_7 rfl (lv_at hl 0 rfl) ?_
  refine y_new (ci := 3) (C := RX3) (T := TX3) (N := 6) (fs := [1, 1, 1, 1, 1, 1]) hX hH rfl hA rfl tyX3 tyX3_ok (by decide +kernel) (by decide +kernel) (by decide +kernel) (by decide +kernel) rfl rfl (fun j hj => by rcases (show j = 0 ∨ j = 1 ∨ j = 2 ∨ j = 3 ∨ j = 4 ∨ j = 5 by omega) with rfl | rfl | rfl | rfl | rfl | rfl <;> rfl) (Nat.le_of_ble_eq_true rfl) (Nat.le_of_ble_eq_true rfl) dX7_image_8 (fun q1 H hH => ?_)
  refine lv_dup hx hb dX7_image_11 rfl ?_
  refine y_back (L := LX false) (α := α) (M := (zMc 83 M (fun _ _ => 0))) (L1 := LX false ++ LSt.map (zshf 83)) (Lk := LSt) (Mk := yMS) (ci := 3) (fs := [1, 1, 1, 1, 1, 1]) (mc := 20) (ms := 4061) hH rfl hA rfl rfl (va_runI (As := []) hX.1 (ctX3_init l D cs q1 H.size) (cwI 0 hts gX7_image_X3_init rfl rfl rfl (hts (.initialized RX3) (by decide +kernel)) (hts (.methodLink RX7 13 yX3_init) (by decide +kernel)) (hts (.instanceMethod yX3_init) (by decide +kernel)) rfl (by decide +kernel) ⟨Nat.le_of_ble_eq_true rfl, Nat.le_of_ble_eq_true rfl⟩) (y_preZ (L := LX false) (α := α) hX hZ hH rfl rfl rfl) rfl rfl (hl.1) rfl (lv_room (Nat.le_of_ble_eq_true rfl)) dX7_image_12 ⟨Nat.le_of_ble_eq_true rfl, Nat.le_of_ble_eq_true rfl⟩) (fun b2 H locs hH => ?_)
  have hH : zHv D cs (LX false ++ LSt.map (zshf 83)) (zca 83 α b2) (zMc 83 (zMc 83 M (fun _ _ => 0)) yMS) (yI α h) s H locs := hH
  refine y_putn (α := zca 83 α b2) (fs := [3, 24, 1, 45, 47, 0, 72]) hX hH 0 2 83 rfl (by decide) (C := RX7) (T := TX7) (N := 7) rfl tyX7 tyX7_ok nmX7 (by decide +kernel) (by decide +kernel) (by decide) rfl rfl rfl (fun _ => ⟨rfl, rfl⟩) dX7_image_15 (fun H locs hH => ?_)
  have hH : zHv D cs ((LX false ++ LSt.map (zshf 83)).set 0 (0, 7, [3, 24, 85, 45, 47, 0, 72])) (zca 83 α b2) (zMc 83 (zMc 83 M (fun _ _ => 0)) yMS) (yI α h) s H locs := hH
  rw [yLX_push] at hH
  generalize hβ : zca 83 α b2 = β at hH
  have hβ0 : ∀ k, k < 83 → β k = α k := fun k hk => by
    rw [← hβ]
    unfold zca
    rw [if_pos hk]
  generalize hM0 : zMc 83 (zMc 83 M (fun _ _ => 0)) yMS = M0 at hH hF
  have hH : zH D cs (LX true) β M0 (yI α h) s H locs := by
    obtain ⟨a1, a2, a3⟩ := hH
    rw [zv_zw (yLX_4 true)] at a1 a2
    exact ⟨a1, a2, a3⟩
  rw [← hβ0 0 (by decide)] at hl
  clear hHw
  unfold fX7_image_t sX7_image_t_18 at hF
  refine lv_aload_n hx hb dX7_image_18 rfl (lv_at hl 0 rfl) ?_
  refine z_getr hX hH 0 2 83 rfl rfl flX7_image_193 dX7_image_19 ?_
  refine lv_aload_n hx hb dX7_image_22 rfl (lv_at hl 0 rfl) ?_
  refine z_getr hX hH 0 0 1 rfl rfl flX7_image_14 dX7_image_23 ?_
  obtain ⟨M2, c1, hF⟩ := zc_e hF
  obtain ⟨M3, eM3, hF⟩ := zl_e hF
  refine z_callVv (As := [.ref (β 1)]) hX hH 83 3 em_LXt_is_83n21_1n21 (ctX3_copyFrom l D cs (zsb is_83n21_1n21 β) N (zpk is_83n21_1n21 M0) M2 c1) (cwV 1 hts gX7_image_X3_copyFrom rfl rfl rfl (by decide +kernel) ⟨Nat.le_of_ble_eq_true rfl, Nat.le_of_ble_eq_true rfl⟩) rfl rfl rfl hl.1 (Nat.le_of_ble_eq_true rfl) rfl dX7_image_26 ⟨Nat.le_of_ble_eq_true rfl, Nat.le_of_ble_eq_true rfl⟩ (fun H locs hH => ?_)
  rw [← eM3] at hH
  refine lv_aload_n hx hb dX7_image_29 rfl (lv_at hl 0 rfl) ?_
  refine z_getr hX hH 0 0 1 rfl rfl flX7_image_14 dX7_image_30 ?_
  obtain ⟨r6, M5, c4, hF⟩ := zc2_e hF
  obtain ⟨M7, eM7, hF⟩ := zl_e hF
  refine z_callVi (As := []) hX hH 1 3 em_LXt_is_1n21 (ctX3_thingCount l D cs (zsb is_1n21 β) N (zpk is_1n21 M3) r6 M5 c4) (cwV 0 hts gX7_image_X3_thingCount rfl rfl rfl (by decide +kernel) ⟨Nat.le_of_ble_eq_true rfl, Nat.le_of_ble_eq_true rfl⟩) rfl rfl rfl hl.1 (Nat.le_of_ble_eq_true rfl) rfl dX7_image_33 ⟨Nat.le_of_ble_eq_true rfl, Nat.le_of_ble_eq_true rfl⟩ (fun H locs hH => ?_)
  rw [← eM7] at hH
  cases hF
  refine W.zret hX.1.1 hX.1.2.1 hr rfl (fun t ht hW => ⟨⟨nZ r, β, rfl, ⟨rfl, hβ0, fun k hk hk2 => ?_⟩, by rw [ht]; exact hH.1, hH.2.1.weaken (fun _ _ _ _ => trivial)⟩, hH.2.2.F ht⟩) hH.2.2.2.2 dX7_image_36 hlocks
  have hkl : k < (LX true).length := hk2
  have gk := zw_at (cs := cs) (α := β) (M := M') (List.getElem?_eq_getElem hkl)
  rcases hH.2.1.2 k _ gk with ⟨j, hj, q⟩ | q
  · have q : β k = α j := q
    have gj := zw_at (cs := cs) (α := β) (M := M') (List.getElem?_eq_getElem (show j < (LX true).length by rw [yLX_lent]; omega))
    have := hH.2.1.1 k j _ _ gk gj (by show β k = β j; rw [q, hβ0 j hj])
    omega
  · exact q
