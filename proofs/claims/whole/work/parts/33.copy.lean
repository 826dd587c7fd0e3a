/-! copies: of a store, of the reference's row -/
def zlen (r : Nat) : Nat := [0, 4, 5, 0, 5, 5, 405, 405, 0, 400, 400, 400, 400, 400, 400, 400, 0, 400, 0, 8, 8].getD r 0
def zSame (S S' : zM) : Prop := (∀ r j, j < zlen r → S' r j = S r j) ∧ S' 16 1 = S 16 1 ∧ S' 18 2 = S 18 2
theorem zCI_same {Q : Nat → List Nat} {S S' : zM} (h : zCI Q S) (hs : zSame S S') : zCI Q S' := by
  obtain ⟨⟨hA, hB⟩, hm, hr⟩ := h
  obtain ⟨hs, -, -⟩ := hs
  have s9 : ∀ j, j < 400 → S' 9 j = S 9 j := fun j hj => hs 9 j hj
  refine ⟨⟨fun w hw hw4 => ?_, hB⟩, fun w hw hw4 k => ?_, fun k hk => by rw [s9 k hk]; exact hr k hk⟩
  · obtain ⟨⟨g1, g2, g3, g4⟩, g5⟩ := hA w hw hw4
    have g1 : S 4 w = ((Q w).length : Int) := g1
    have g2 : zCh (S 6) (S 7) (400 + w) (Q w) := g2
    have g5 : S 5 w = zsm (S 10) (Q w) := g5
    have in5 : ∀ x, x ∈ (400 + w) :: Q w → x < 405 := fun x hx => by
      rcases List.mem_cons.mp hx with q | q
      · omega
      · have := g3 x q; omega
    refine ⟨⟨?_, ?_, g3, g4⟩, ?_⟩
    · show S' 4 w = _
      rw [hs 4 w (show w < 5 by omega)]; exact g1
    · show zCh (S' 6) (S' 7) (400 + w) (Q w)
      exact zCh_other g2 (fun x hx => hs 6 x (in5 x hx)) (fun x hx => hs 7 x (in5 x hx))
    · show S' 5 w = zsm (S' 10) (Q w)
      rw [hs 5 w (show w < 5 by omega), g5]
      exact zsm_congr (fun k hk => (hs 10 k (g3 k hk)).symm)
  · rw [hm w hw hw4 k]
    constructor
    · rintro ⟨p, q⟩; exact ⟨p, by rw [s9 k p]; exact q⟩
    · rintro ⟨p, q⟩; exact ⟨p, by rw [s9 k p] at q; exact q⟩
theorem zMI_same {c : Int} {Q : Nat → List Nat} {g g' : Nat → Int} (h : zMI c Q g) (hs : ∀ i, i < 3253 → g' i = g i) : zMI c Q g' :=
  zMI_still h ⟨fun k hk => ⟨hs k (by omega), hs (800 + k) (by omega), hs (2800 + k) (by omega)⟩, fun w hw => hs (3204 + w) (by omega), hs 3215 (by omega)⟩
theorem zSim_same {b c b' : Int} {Q : Nat → List Nat} {S S' M M' : zM} (h : zSim false b c Q S M) (hs : zSame S S') (hg : ∀ i, i < 3253 → M' 1 i = M 1 i) (h0 : 0 ≤ M' 0 5 ∧ M' 0 5 ≤ 400) : zSim false b' c Q S' M' := by
  have hci := zCI_same h.ci hs
  have hmi := zMI_same h.mi hg
  obtain ⟨hs, s16, s18⟩ := hs
  refine ⟨hci, hmi, fun k hk => ?_, ?_, ?_, ?_, fun k hk => ?_, ?_, ⟨h0, fun q => by cases q⟩⟩
  · rw [hg k (by omega), hg (400 + k) (by omega), hg (800 + k) (by omega), hg (1200 + k) (by omega), hg (1600 + k) (by omega), hg (2000 + k) (by omega), hg (2400 + k) (by omega), hs 9 k hk, hs 15 k hk, hs 10 k hk, hs 11 k hk, hs 12 k hk, hs 13 k hk, hs 14 k hk]
    exact h.ef k hk
  · unfold zEs
    rw [hg 3200 (by omega), hg 3201 (by omega), hg 3202 (by omega), hg 3203 (by omega), hg 3209 (by omega), hg 3210 (by omega), hg 3211 (by omega), hg 3212 (by omega), hg 3213 (by omega), hs 1 0 (by decide), hs 1 1 (by decide), hs 1 2 (by decide), hs 1 3 (by decide), hs 2 0 (by decide), hs 2 1 (by decide), hs 2 2 (by decide), hs 2 3 (by decide), hs 2 4 (by decide)]
    exact h.es
  · obtain ⟨g1, g2, g3, g4⟩ := h.eg
    unfold zEg
    rw [hg 3214 (by omega), s16]
    exact ⟨g1, g2, g3, fun i hi hi2 => by
      have hm : ((S 16 1 - 1 - i) % 400).toNat < 400 := by omega
      rw [hg (3216 + i) (by omega), hs 17 _ hm]; exact g4 i hi hi2⟩
  · obtain ⟨g1, g2, g3, g4⟩ := h.eb
    unfold zEb
    rw [hg 3236 (by omega), s18]
    exact ⟨g1, g2, g3, fun i hi => by
      have hi8 : i < 8 := by omega
      rw [hg (3237 + 2 * i) (by omega), hg (3238 + 2 * i) (by omega), hs 19 i hi8, hs 20 i hi8]; exact g4 i hi⟩
  · rw [hs 10 k hk, hs 11 k hk, hs 12 k hk, hs 13 k hk, hs 14 k hk]
    exact h.rf k hk
  · unfold zRs
    rw [hs 1 0 (by decide), hs 1 1 (by decide), hs 1 2 (by decide), hs 1 3 (by decide)]
    exact h.rs
/-- the reference's copy -/
theorem m_copy (N : Nat) (hN : 6000 < N) (M : zM) : ∃ M', fX8_copy N M = some M' ∧ (∀ i, i < 3253 → M' 1 i = M 0 i) ∧ M' 0 = M 0 := by
  have loop : ∀ (m n i : Nat) (M0 : zM), i + m = 3253 → m < n → (∀ j, j < i → M0 1 j = M 0 j) → M0 0 = M 0 → ∃ M', fX8_copy_2 N n (i : Int) M0 = some M' ∧ (∀ i, i < 3253 → M' 1 i = M 0 i) ∧ M' 0 = M 0 := by
    intro m
    induction m with
    | zero =>
      intro n i M0 hi hn h1 h0
      obtain ⟨n, rfl⟩ : ∃ x, n = x + 1 := ⟨n - 1, by omega⟩
      refine ⟨M0, ?_, fun j hj => h1 j (by omega), h0⟩
      unfold fX8_copy_2 sX8_copy_2 zg zi
      rw [if_pos (by constructor <;> omega), if_pos (by omega)]
    | succ m ih =>
      intro n i M0 hi hn h1 h0
      obtain ⟨n, rfl⟩ : ∃ x, n = x + 1 := ⟨n - 1, by omega⟩
      have hd : fX8_copy_2 N (n + 1) (i : Int) M0 = sX8_copy_2 N (fun x2 M0 => fX8_copy_2 N n x2 M0) (i : Int) M0 := rfl
      rw [hd]
      unfold sX8_copy_2 zg zi zl
      dsimp only
      rw [show ((i : Int)).toNat = i by omega, if_pos (by constructor <;> omega), if_neg (by omega), if_pos (by omega), show (i : Int) + 1 = ((i + 1 : Nat) : Int) by omega]
      refine ih n (i + 1) _ (by omega) (by omega) (fun j hj => ?_) (by rw [zup_other (by decide)]; exact h0)
      rw [zup_self]
      by_cases hji : j = i
      · rw [if_pos hji, h0, hji]
      · rw [if_neg hji]; exact h1 j (by omega)
  unfold fX8_copy zl
  exact loop 3253 N 0 M (by omega) (by omega) (fun j hj => by omega) rfl
theorem zcp_at (M : zM) (s d n : Nat) (j : Nat) (hj : j < n) : zcp M s d 0 0 n d j = M s j := by
  unfold zcp
  rw [if_pos ⟨rfl, by omega, by omega⟩]
  congr 1
  omega
theorem zpt_keep {is : List Nat} {M q : zM} {k : Nat} (h : ∀ j, is[j]? = some k → q j = M k) : zpt is M q k = M k := by
  unfold zpt
  cases hz : zix is k with
  | none => rfl
  | some j => exact h j (zix_some hz)
/-- rows that are copied already -/
def zDone (T : Nat → Prop) (M X : zM) : Prop := (∀ r, 21 ≤ r → X r = M r) ∧ ∀ r, T r → ∀ j, j < zlen r → X r j = M (21 + r) j
theorem zDone_cp {T : Nat → Prop} {M X X' : zM} (h : zDone T M X) (D : Nat → Prop) (hD : ∀ r, D r → r ≤ 20) (hX : ∀ r, ¬ D r → X' r = X r) (hXd : ∀ r, D r → ∀ j, j < zlen r → X' r j = X (21 + r) j) : zDone (fun r => T r ∨ D r) M X' := by
  refine ⟨fun r hr => ?_, fun r hr j hj => ?_⟩
  · rw [hX r (fun q => by have := hD r q; omega)]; exact h.1 r hr
  · by_cases hd : D r
    · rw [hXd r hd j hj, h.1 (21 + r) (by omega)]
    · rw [hX r hd]
      rcases hr with q | q
      · exact h.2 r q j hj
      · exact absurd q hd
theorem zDone_w {T T' : Nat → Prop} {M X : zM} (h : zDone T M X) (ht : ∀ r, T' r → T r) : zDone T' M X := ⟨h.1, fun r hr => h.2 r (ht r hr)⟩
theorem q_copy (N : Nat) (M : zM) : ∃ M', fX2_copyFrom N (zpk is_3n5_24n5 M) = some M' ∧ (∀ r, ¬ (4 ≤ r ∧ r ≤ 7) → zpt is_3n5_24n5 M M' r = M r) ∧ ∀ r, (4 ≤ r ∧ r ≤ 7) → ∀ j, j < zlen r → zpt is_3n5_24n5 M M' r j = M (21 + r) j := by
  obtain ⟨q, hq⟩ : ∃ q, q = zpk is_3n5_24n5 M := ⟨_, rfl⟩
  rw [← hq]
  have nd : va_nd is_3n5_24n5 = true := by decide
  refine ⟨_, rfl, fun r hr => zpt_keep (fun j hj => ?_), fun r hr j hj => ?_⟩
  · have hg : is_3n5_24n5.getD j 0 = r := by rw [List.getD_eq_getElem?_getD, hj]; rfl
    have h1 : ¬ j = 1 := fun e => by subst e; exact hr (by rw [← hg]; decide)
    have h2 : ¬ j = 2 := fun e => by subst e; exact hr (by rw [← hg]; decide)
    have h3 : ¬ j = 3 := fun e => by subst e; exact hr (by rw [← hg]; decide)
    have h4 : ¬ j = 4 := fun e => by subst e; exact hr (by rw [← hg]; decide)
    rw [zcp_ne h4, zcp_ne h3, zcp_ne h2, zcp_ne h1, hq]
    show M (is_3n5_24n5.getD j 0) = M r
    rw [hg]
  · obtain rfl | rfl | rfl | rfl : r = 4 ∨ r = 5 ∨ r = 6 ∨ r = 7 := by omega
    · rw [zpt_at nd (show is_3n5_24n5[1]? = some 4 by rfl), zcp_ne (by decide), zcp_ne (by decide), zcp_ne (by decide), zcp_at _ _ _ _ _ (show j < 5 from hj), hq]; rfl
    · rw [zpt_at nd (show is_3n5_24n5[2]? = some 5 by rfl), zcp_ne (by decide), zcp_ne (by decide), zcp_at _ _ _ _ _ (show j < 5 from hj), zcp_ne (by decide), hq]; rfl
    · rw [zpt_at nd (show is_3n5_24n5[3]? = some 6 by rfl), zcp_ne (by decide), zcp_at _ _ _ _ _ (show j < 405 from hj), zcp_ne (by decide), zcp_ne (by decide), hq]; rfl
    · rw [zpt_at nd (show is_3n5_24n5[4]? = some 7 by rfl), zcp_at _ _ _ _ _ (show j < 405 from hj), zcp_ne (by decide), zcp_ne (by decide), zcp_ne (by decide), hq]; rfl
theorem l_copy (N : Nat) (M : zM) : ∃ M', fX1_copyFrom N (zpk is_16n2_37n2 M) = some M' ∧ (∀ r, ¬ (16 ≤ r ∧ r ≤ 17) → zpt is_16n2_37n2 M M' r = M r) ∧ (∀ j, j < 400 → zpt is_16n2_37n2 M M' 17 j = M 38 j) ∧ zpt is_16n2_37n2 M M' 16 1 = M 37 1 := by
  obtain ⟨q, hq⟩ : ∃ q, q = zpk is_16n2_37n2 M := ⟨_, rfl⟩
  rw [← hq]
  have nd : va_nd is_16n2_37n2 = true := by decide
  refine ⟨_, rfl, fun r hr => zpt_keep (fun j hj => ?_), fun j hj => ?_, ?_⟩
  · have hg : is_16n2_37n2.getD j 0 = r := by rw [List.getD_eq_getElem?_getD, hj]; rfl
    have h1 : ¬ j = 1 := fun e => by subst e; exact hr (by rw [← hg]; decide)
    have h0 : ¬ j = 0 := fun e => by subst e; exact hr (by rw [← hg]; decide)
    rw [zup_other h0, zcp_ne h1, hq]
    show M (is_16n2_37n2.getD j 0) = M r
    rw [hg]
  · rw [zpt_at nd (show is_16n2_37n2[1]? = some 17 by rfl), zup_other (by decide), zcp_at _ _ _ _ _ hj, hq]; rfl
  · rw [zpt_at nd (show is_16n2_37n2[0]? = some 16 by rfl), zup_eq, zcp_ne (by decide), hq]; rfl
theorem b_copy (N : Nat) (M : zM) : ∃ M', fX0_copyFrom N (zpk is_18n3_39n3 M) = some M' ∧ (∀ r, ¬ (18 ≤ r ∧ r ≤ 20) → zpt is_18n3_39n3 M M' r = M r) ∧ (∀ j, j < 8 → zpt is_18n3_39n3 M M' 19 j = M 40 j) ∧ (∀ j, j < 8 → zpt is_18n3_39n3 M M' 20 j = M 41 j) ∧ zpt is_18n3_39n3 M M' 18 2 = M 39 2 := by
  obtain ⟨q, hq⟩ : ∃ q, q = zpk is_18n3_39n3 M := ⟨_, rfl⟩
  rw [← hq]
  have nd : va_nd is_18n3_39n3 = true := by decide
  refine ⟨_, rfl, fun r hr => zpt_keep (fun j hj => ?_), fun j hj => ?_, fun j hj => ?_, ?_⟩
  · have hg : is_18n3_39n3.getD j 0 = r := by rw [List.getD_eq_getElem?_getD, hj]; rfl
    have h2 : ¬ j = 2 := fun e => by subst e; exact hr (by rw [← hg]; decide)
    have h1 : ¬ j = 1 := fun e => by subst e; exact hr (by rw [← hg]; decide)
    have h0 : ¬ j = 0 := fun e => by subst e; exact hr (by rw [← hg]; decide)
    rw [zup_other h0, zcp_ne h2, zcp_ne h1, hq]
    show M (is_18n3_39n3.getD j 0) = M r
    rw [hg]
  · rw [zpt_at nd (show is_18n3_39n3[1]? = some 19 by rfl), zup_other (by decide), zcp_ne (by decide), zcp_at _ _ _ _ _ hj, hq]; rfl
  · rw [zpt_at nd (show is_18n3_39n3[2]? = some 20 by rfl), zup_other (by decide), zcp_at _ _ _ _ _ hj, zcp_ne (by decide), hq]; rfl
  · rw [zpt_at nd (show is_18n3_39n3[0]? = some 18 by rfl), zup_eq, zcp_ne (by decide), zcp_ne (by decide), hq]; rfl
/-- the component's copy: rows 0 to 20 are those of 21 to 41 -/
theorem s_copy (N : Nat) (hN : 6000 < N) (M : zM) : ∃ M', fX3_copyFrom N M = some M' ∧ (∀ r, 21 ≤ r → M' r = M r) ∧ (∀ r j, j < zlen r → M' r j = M (21 + r) j) ∧ M' 16 1 = M 37 1 ∧ M' 18 2 = M 39 2 := by
  have loop : ∀ (m n i : Nat) (X : zM), i + m = 7 → m < n → zDone (fun r => r = 1 ∨ r = 2 ∨ (4 ≤ r ∧ r ≤ 7) ∨ (9 ≤ r ∧ r < 9 + i)) M X → ∃ M', fX3_copyFrom_41 N n (i : Int) X = some M' ∧ (∀ r, 21 ≤ r → M' r = M r) ∧ (∀ r j, j < zlen r → M' r j = M (21 + r) j) ∧ M' 16 1 = M 37 1 ∧ M' 18 2 = M 39 2 := by
    intro m
    induction m with
    | zero =>
      intro n i X hi hn hX
      obtain ⟨n, rfl⟩ : ∃ x, n = x + 1 := ⟨n - 1, by omega⟩
      obtain ⟨L1, l1, l2, l3, l4⟩ := l_copy N X
      obtain ⟨B1, b1, b2, b3, b4, b5⟩ := b_copy N (zpt is_16n2_37n2 X L1)
      have d1 : zDone (fun r => (r = 1 ∨ r = 2 ∨ (4 ≤ r ∧ r ≤ 7) ∨ (9 ≤ r ∧ r < 9 + i)) ∨ (16 ≤ r ∧ r ≤ 17)) M (zpt is_16n2_37n2 X L1) := zDone_cp hX (fun r => 16 ≤ r ∧ r ≤ 17) (fun r hr => by omega) l2 (fun r hr j hj => by
        obtain rfl | rfl : r = 16 ∨ r = 17 := by omega
        · exact absurd hj (by show ¬ j < 0; omega)
        · exact l3 j hj)
      have d2 : zDone (fun r => ((r = 1 ∨ r = 2 ∨ (4 ≤ r ∧ r ≤ 7) ∨ (9 ≤ r ∧ r < 9 + i)) ∨ (16 ≤ r ∧ r ≤ 17)) ∨ (18 ≤ r ∧ r ≤ 20)) M (zpt is_18n3_39n3 (zpt is_16n2_37n2 X L1) B1) := zDone_cp d1 (fun r => 18 ≤ r ∧ r ≤ 20) (fun r hr => by omega) b2 (fun r hr j hj => by
        obtain rfl | rfl | rfl : r = 18 ∨ r = 19 ∨ r = 20 := by omega
        · exact absurd hj (by show ¬ j < 0; omega)
        · exact b3 j hj
        · exact b4 j hj)
      refine ⟨zpt is_18n3_39n3 (zpt is_16n2_37n2 X L1) B1, ?_, d2.1, fun r j hj => ?_, ?_, ?_⟩
      · have hd : fX3_copyFrom_41 N (n + 1) (i : Int) X = sX3_copyFrom_41 N (fun x2 M0 => fX3_copyFrom_41 N n x2 M0) (i : Int) X := rfl
        rw [hd]
        unfold sX3_copyFrom_41 zg zi zc zl
        rw [if_pos (by constructor <;> omega), if_pos (by omega), l1]
        dsimp only
        rw [b1]
      · by_cases hr : 21 ≤ r
        · exact absurd hj (by
            have : zlen r = 0 := by
              unfold zlen
              rw [List.getD_eq_getElem?_getD, List.getElem?_eq_none (by show 21 ≤ r; exact hr)]
              rfl
            omega)
        · by_cases h0 : r = 0 ∨ r = 3 ∨ r = 8
          · rcases h0 with rfl | rfl | rfl <;> exact absurd hj (by show ¬ j < 0; omega)
          · exact d2.2 r (by omega) j hj
      · rw [b2 16 (by omega), l4, hX.1 37 (by omega)]
      · rw [b5, l2 39 (by omega), hX.1 39 (by omega)]
    | succ m ih =>
      intro n i X hi hn hX
      obtain ⟨n, rfl⟩ : ∃ x, n = x + 1 := ⟨n - 1, by omega⟩
      have hd : fX3_copyFrom_41 N (n + 1) (i : Int) X = sX3_copyFrom_41 N (fun x2 M0 => fX3_copyFrom_41 N n x2 M0) (i : Int) X := rfl
      rw [hd]
      unfold sX3_copyFrom_41 zg zi zl
      rw [if_pos (by constructor <;> omega), if_neg (by omega), if_pos (by omega), show (i : Int) + 1 = ((i + 1 : Nat) : Int) by omega, show ((i : Int)).toNat = i by omega]
      refine ih n (i + 1) _ (by omega) (by omega) (zDone_w (zDone_cp hX (fun r => r = 9 + 1 * i) (fun r hr => by omega) (fun r hr => zcp_ne hr) (fun r hr j hj => ?_)) (fun r hr => by omega))
      subst hr
      have hz : zlen (9 + 1 * i) = 400 := by
        have : ∀ i, i < 7 → zlen (9 + 1 * i) = 400 := by decide
        exact this i (by omega)
      rw [hz] at hj
      rw [zcp_at _ _ _ _ _ hj, show 30 + 1 * i = 21 + (9 + 1 * i) by omega]
  obtain ⟨Q1, q1, q2, q3⟩ := q_copy N (zcp (zcp M 22 1 0 0 4) 23 2 0 0 5)
  have d0 : zDone (fun _ => False) M M := ⟨fun _ _ => rfl, fun _ h => h.elim⟩
  have d1 := zDone_cp d0 (fun r => r = 1) (X' := zcp M 22 1 0 0 4) (fun r hr => by omega) (fun r hr => zcp_ne hr) (fun r hr j hj => by subst hr; exact zcp_at _ _ _ _ _ hj)
  have d2 := zDone_cp d1 (fun r => r = 2) (X' := zcp (zcp M 22 1 0 0 4) 23 2 0 0 5) (fun r hr => by omega) (fun r hr => zcp_ne hr) (fun r hr j hj => by subst hr; exact zcp_at _ _ _ _ _ hj)
  have d3 := zDone_cp d2 (fun r => 4 ≤ r ∧ r ≤ 7) (fun r hr => by omega) q2 q3
  unfold fX3_copyFrom zl zc
  dsimp only
  rw [q1]
  exact loop 7 N 0 _ (by omega) (by omega) (zDone_w d3 (fun r hr => by omega))
