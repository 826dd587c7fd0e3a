/-! trace -/
theorem is43 : ∀ n : Nat, n < 6 → va_nd (is_43n2_f46n4 n) = true := by decide
theorem st_trace (N : Nat) (hN : 6000 < N) {K : Bool} {c : Int} {MX MM : zM} (h : zInv K c MX MM) : zOk K (c + 130000) (fX7_trace N MX) (fX8_trace N MM) := by
  have hw := h.weak (c' := c + 130000) (by omega)
  obtain ⟨⟨⟨Q, hs⟩, hv⟩, ⟨k1, k2⟩, ⟨t1, ⟨t2, t3⟩, t4⟩, ⟨n, n1, n2, n3, n4⟩, hp⟩ := id h
  unfold fX7_trace fX8_trace
  rw [n2, n3]
  refine zOk_gl (by constructor <;> omega) (zOk_gr (by constructor <;> omega) ?_)
  by_cases hn : n = 6
  · exact zOk_fl (by omega) (zOk_tr (by omega) (zOk_s rfl hw))
  · have hn6 : n < 6 := by omega
    have nd := is43 n hn6
    refine zOk_tl (by omega) (zOk_fr (by omega) (zOk_gl (by omega) ?_))
    rw [show ((n : Int)).toNat = n by omega]
    obtain ⟨C0, hC0⟩ : ∃ C0, C0 = zpk (is_43n2_f46n4 n) MX := ⟨_, rfl⟩
    obtain ⟨M3, hM3⟩ : ∃ M3, M3 = zup (zup MM 0 17 0) 0 18 (-1) := ⟨_, rfl⟩
    have m0 : ∀ j, M3 0 j = if j = 18 then -1 else if j = 17 then 0 else MM 0 j := fun j => by rw [hM3, zup_self, zup_self]
    have mr : ∀ r, r ≠ 0 → M3 r = MM r := fun r hr => by rw [hM3, zup_other hr, zup_other hr]
    have c0 : C0 0 = MX 43 := by rw [hC0]; rfl
    have c1 : C0 1 = MX 44 := by rw [hC0]; rfl
    have ps : zPs (zup C0 0 2 0) M3 := by
      unfold zPs
      rw [zup_other (show (1 : Nat) ≠ 0 by decide), zup_self, zup_self, m0, m0, m0, mr 5 (by decide), c0, c1, if_neg (by decide), if_pos rfl, if_neg (by decide), if_neg (by decide), if_neg (by decide), if_pos rfl, if_pos rfl]
      exact ⟨t1, rfl, rfl, by omega, t3, t4⟩
    obtain ⟨C', M', v, s, a1, a2, a3, a4, a5⟩ := p_loop N hn6 19 N N 0 (zup C0 0 2 0) M3 (by omega) (by omega) (by omega) ps (by rw [m0, if_neg (by decide), if_neg (by decide)]; exact n3) (fun j hj => by omega)
    have lC : zLC C0 C' := zLC.tr (C1 := zup C0 0 2 0) (zFC.at (a := 0)).lc a3
    have eR : fX5_readInto N C0 = some (v, C') := a1
    rw [← hC0]
    refine zOk_2l eR (zOk_ll (zOk_ll (zOk_ll ?_)))
    have eM : (zl (zup MM 0 17 0) fun M2 => zl (zup M2 0 18 (-1)) fun M3 => zl ((0 : Int)) fun v4 => zc (fX8_clause N ((M3 0 12) * (20:Int)) M3) fun M6 => zl (v4 + (1:Int)) fun v7 => fX8_trace_38 N N v7 M6) = sX8_trace_101 N (s : Int) M' := by
      rw [← a2]
      unfold zl
      dsimp only
      rw [← hM3]
      have : M3 0 12 = (n : Int) := by rw [m0, if_neg (by decide), if_neg (by decide)]; exact n3
      rw [this]
      rfl
    rw [eM]
    -- the component's memory behind it
    obtain ⟨X7, hX7⟩ : ∃ X7, X7 = zpt (is_43n2_f46n4 n) MX C' := ⟨_, rfl⟩
    rw [← hX7]
    have x43 : X7 43 = C' 0 := by rw [hX7]; exact zpt_at nd rfl
    have xo : ∀ r, r ≠ 43 → r ≠ 44 → ¬ (46 + 4 * n ≤ r ∧ r ≤ 46 + 4 * n + 3) → X7 r = MX r := fun r p q w => by
      rw [hX7]
      refine zpt_off (fun g => ?_)
      rcases List.mem_cons.mp g with g | g
      · exact p g
      rcases List.mem_cons.mp g with g | g
      · exact q g
      rcases List.mem_cons.mp g with g | g
      · omega
      rcases List.mem_cons.mp g with g | g
      · omega
      rcases List.mem_cons.mp g with g | g
      · omega
      rcases List.mem_cons.mp g with g | g
      · omega
      · cases g
    have x46 : X7 (46 + 4 * n) = C' 2 := by rw [hX7]; exact zpt_at nd rfl
    have x47 : X7 (46 + 4 * n + 1) = C' 3 := by rw [hX7]; exact zpt_at nd rfl
    have x48 : X7 (46 + 4 * n + 2) = C' 4 := by rw [hX7]; exact zpt_at nd rfl
    have x49 : X7 (46 + 4 * n + 3) = C' 5 := by rw [hX7]; exact zpt_at nd rfl
    have mM : ∀ r, r ≠ 0 → r ≠ 6 → r ≠ 7 → r ≠ 8 → M' r = MM r := fun r p q w z => (a4.1 r p q w z).trans (mr r p)
    have mM0 : ∀ j, j ≠ 17 → j ≠ 18 → M' 0 j = MM 0 j := fun j p q => by rw [a4.2.1 j p q, m0, if_neg q, if_neg p]
    have mMt : ∀ i, i < n * 20 → M' 6 i = MM 6 i ∧ M' 7 i = MM 7 i ∧ M' 8 i = MM 8 i := fun i hi => by
      have := a4.2.2 i hi
      rw [mr 6 (by decide), mr 7 (by decide), mr 8 (by decide)] at this
      exact this
    -- what stays
    have stay : ∀ (XF MF : zM) (n' : Nat), n' ≤ 6 → (∀ r, r ≠ 0 → r ≠ 43 → XF r = X7 r) → XF 0 5 = (n' : Int) → XF 43 1 = 0 → (∀ r, r ≠ 0 → r ≠ 9 → MF r = M' r) → MF 0 7 = 0 → MF 0 12 = (n' : Int) → (∀ j, j ≠ 7 → j ≠ 12 → MF 0 j = M' 0 j) → (∀ t, t < n → MF 9 t = MM 9 t) → (n' ≠ n → n' = n + 1 ∧ zTre n (zsh (46 + 4 * n) X7) MF) → n ≤ n' → zInv K (c + 130000) XF MF := by
      intro XF MF n' hn' hX hX0 hX43 hM hM7 hM12 hM0 hM9 hnew hle
      have xr : ∀ r, r ≠ 0 → r ≠ 43 → r ≠ 44 → ¬ (46 + 4 * n ≤ r ∧ r ≤ 46 + 4 * n + 3) → XF r = MX r := fun r p q w z => (hX r p q).trans (xo r q w z)
      have mr' : ∀ r, r ≠ 0 → r ≠ 9 → r ≠ 6 → r ≠ 7 → r ≠ 8 → MF r = MM r := fun r p q w z y => (hM r p q).trans (mM r p w z y)
      have m05 : ∀ j, j ≠ 7 → j ≠ 12 → j ≠ 17 → j ≠ 18 → MF 0 j = MM 0 j := fun j p q w z => (hM0 j p q).trans (mM0 j w z)
      refine ⟨⟨⟨Q, (zSim_M (zSim_rows hs (fun r hr => xr (r + 1) (by omega) (by omega) (by omega) (by omega))) (mr' 1 (by decide) (by decide) (by decide) (by decide) (by decide)) (m05 5 (by decide) (by decide) (by decide) (by decide)) (mr' 4 (by decide) (by decide) (by decide) (by decide) (by decide))).weak (by omega)⟩, zRv_rows hv (xr 16 (by omega) (by omega) (by omega) (by omega))⟩, ⟨by rw [m05 3 (by decide) (by decide) (by decide) (by decide)]; exact k1, fun q => ?_⟩, ⟨by rw [hX43, hM7], by rw [hX43]; omega, fun j hj => by rw [hX43] at hj; omega⟩, ⟨n', hn', hX0, hM12, fun t ht => ?_⟩, fun i hi => ?_⟩
      · obtain ⟨⟨Qk, s1⟩, s2⟩ := k2 q
        have e : zmk MF = zmk MM := by
          unfold zmk
          rw [mr' 3 (by decide) (by decide) (by decide) (by decide) (by decide)]
        refine ⟨⟨Qk, ?_⟩, zRv_rows s2 (xr 98 (by omega) (by omega) (by omega) (by omega))⟩
        rw [e]
        exact (zSim_rows s1 (fun r _ => xr (r + 83) (by omega) (by omega) (by omega) (by omega))).weak (by omega)
      · by_cases htn : t < n
        · refine zTre_fr (n4 t htn) (fun r hr => xr (r + (46 + 4 * t)) (by omega) (by omega) (by omega) (by omega)) (fun i hi1 hi2 => ?_) (hM9 t htn)
          rw [hM 6 (by decide) (by decide), hM 7 (by decide) (by decide), hM 8 (by decide) (by decide)]
          exact mMt i (by omega)
        · obtain ⟨e1, e2⟩ := hnew (by omega)
          have : t = n := by omega
          subst this
          exact zTre_fr e2 (fun r hr => hX (r + (46 + 4 * t)) (by omega) (by omega)) (fun _ _ _ => ⟨rfl, rfl, rfl⟩) rfl
      · rw [xr (71 + 2 * i) (by omega) (by omega) (by omega) (by omega), xr (71 + 2 * i + 1) (by omega) (by omega) (by omega) (by omega), mr' 10 (by decide) (by decide) (by decide) (by decide) (by decide), mr' 11 (by decide) (by decide) (by decide) (by decide) (by decide), mr' (13 + 1 * i) (by omega) (by omega) (by omega) (by omega) (by omega)]
        exact hp i hi
    have x05 : X7 0 5 = (n : Int) := by rw [xo 0 (by decide) (by decide) (by omega)]; exact n2
    unfold sX8_trace_101
    refine zOk_lr ?_
    have z18 : zup M' 0 7 0 0 18 = M' 0 18 := by rw [zup_self, if_neg (by decide)]
    have z12 : zup M' 0 7 0 0 12 = (n : Int) := by rw [zup_self, if_neg (by decide), mM0 12 (by decide) (by decide)]; exact n3
    rw [z18]
    rcases a5 with ⟨rfl, b2, b3, b4, b5, b6⟩ | ⟨b1, b2, b3⟩
    · refine zOk_gl (by decide) (zOk_tl (by decide) (zOk_ll ?_))
      rw [b2, z12]
      refine zOk_gr (by decide) (zOk_tr (by decide) (zOk_gr (by omega) (zOk_lr (zOk_lr ?_))))
      have e5 : zup X7 43 1 0 0 5 = (n : Int) := by rw [zup_other (by decide)]; exact x05
      have e12 : zup (zup M' 0 7 0) 9 (n : Int).toNat (s : Int) 0 12 = (n : Int) := by rw [zup_other (by decide)]; exact z12
      rw [e5, e12, show ((n : Int)).toNat = n by omega]
      refine zOk_s (by rw [zup_eq]; omega) (stay _ _ (n + 1) (by omega) (fun r p q => by rw [zup_other p, zup_other q]) (by rw [zup_eq]; rfl) (by rw [zup_other (by decide), zup_eq]) (fun r p q => by rw [zup_other p, zup_other q, zup_other p]) (by rw [zup_self, if_neg (by decide), zup_other (by decide), zup_eq]) (by rw [zup_eq]; rfl) (fun j p q => by rw [zup_self, if_neg q, zup_other (by decide), zup_self, if_neg p]) (fun t ht => ?_) (fun _ => ⟨rfl, s, b4, ?_, ?_, fun i hi => ?_⟩) (by omega))
      · rw [zup_other (by decide), zup_self, if_neg (by omega), zup_other (by decide)]
        rw [mM 9 (by decide) (by decide) (by decide) (by decide)]
      · show X7 (0 + (46 + 4 * n)) 3 = (s : Int)
        rw [Nat.zero_add, x46]; exact b5
      · rw [zup_other (by decide), zup_eq]
      · have g := b6 i hi
        unfold zCl at g
        have w1 : zsh (46 + 4 * n) X7 1 = C' 3 := by rw [← x47]; show X7 (1 + (46 + 4 * n)) = _; rw [Nat.add_comm]
        have w2 : zsh (46 + 4 * n) X7 2 = C' 4 := by rw [← x48]; show X7 (2 + (46 + 4 * n)) = _; rw [Nat.add_comm]
        have w3 : zsh (46 + 4 * n) X7 3 = C' 5 := by rw [← x49]; show X7 (3 + (46 + 4 * n)) = _; rw [Nat.add_comm]
        rw [w1, w2, w3, zup_other (show (6 : Nat) ≠ 0 by decide), zup_other (show (6 : Nat) ≠ 9 by decide), zup_other (show (6 : Nat) ≠ 0 by decide), zup_other (show (7 : Nat) ≠ 0 by decide), zup_other (show (7 : Nat) ≠ 9 by decide), zup_other (show (7 : Nat) ≠ 0 by decide), zup_other (show (8 : Nat) ≠ 0 by decide), zup_other (show (8 : Nat) ≠ 9 by decide), zup_other (show (8 : Nat) ≠ 0 by decide)]
        exact g
    · refine zOk_gl (by constructor <;> omega) (zOk_fl (by omega) ?_)
      rw [b3]
      refine zOk_gr (by constructor <;> omega) (zOk_fr (by omega) (zOk_s rfl ?_))
      refine stay _ _ n (by omega) (fun r p q => zup_other q) (by rw [zup_other (by decide)]; exact x05) (by rw [zup_eq]) (fun r p q => zup_other p) (by rw [zup_eq]) z12 (fun j p q => by rw [zup_self, if_neg p]) (fun t ht => ?_) (fun q => absurd rfl q) (by omega)
      rw [zup_other (by decide), mM 9 (by decide) (by decide) (by decide) (by decide)]
