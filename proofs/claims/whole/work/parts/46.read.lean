/-! a clause, and the whole trace -/
theorem zPs_rows {C C' M M' : zM} (h : zPs C M) (c0 : C' 0 = C 0) (c1 : C' 1 = C 1) (m0 : M' 0 = M 0) (m5 : M' 5 = M 5) : zPs C' M' := by
  unfold zPs
  rw [c0, c1, m0, m5]
  exact h
theorem zPs_f {C M : zM} (h : zPs C M) : 0 ≤ zup M 0 18 (C 0 2) 0 18 ∧ zup M 0 18 (C 0 2) 0 18 ≤ 100 := by
  obtain ⟨h1, h2, h3, ⟨h4, h5⟩, h6, h7⟩ := h
  rw [zup_eq]
  omega
theorem p_109 (N : Nat) {C M : zM} (h : zPs C M) {a x : Nat} (ha : a < 20) (hx : x < 120) {k x4 x5 : Int} (hk : k = 103 ∨ k = 112 ∨ k = 120) (h4 : 0 ≤ x4 ∧ x4 ≤ 3) (h5 : 0 ≤ x5 ∧ x5 ≤ 99) :
    zOut a x C M (sX5_readClause_109 N (a : Int) k x4 x5 C) (sX8_clause_108 N (x : Int) k x4 x5 M) := by
  obtain ⟨C5, hC5⟩ : ∃ C5, C5 = zup (zup C 3 a k) 4 a (x4 * 100 + x5) := ⟨_, rfl⟩
  have fC : zFC a C C5 := by rw [hC5]; exact (zFC.up (by omega)).tr (zFC.up (by omega))
  have p5 : zPs C5 M := zPs_rows h (by rw [hC5, zup_other (by decide), zup_other (by decide)]) (by rw [hC5, zup_other (by decide), zup_other (by decide)]) rfl rfl
  have e3 : C5 3 a = k := by rw [hC5, zup_other (by decide), zup_eq]
  have e4 : C5 4 a = x4 * 100 + x5 := by rw [hC5, zup_eq]
  have ga : 0 ≤ (a : Int) ∧ (a : Int) < 20 := by omega
  have gx : 0 ≤ (x : Int) ∧ (x : Int) < 120 := by omega
  have zk : zR k := by constructor <;> omega
  have ia : ((a : Int)).toNat = a := by omega
  have ix : ((x : Int)).toNat = x := by omega
  have eC : ∀ p : zM → Option (Int × zM), (zg (0 ≤ (a : Int) ∧ (a : Int) < 20) <| zl (zup C 3 (a : Int).toNat k) fun M39 => zl (zup M39 4 (a : Int).toNat ((x4 * (100:Int)) + x5)) fun M40 => p M40) = p C5 := fun p => by
    unfold zg zl
    dsimp only
    rw [if_pos ga, ia, hC5]
  refine zOut.pre (C1 := C5) (M1 := M) ?_ fC zFM.rf
  unfold sX5_readClause_109 sX8_clause_108
  rw [eC]
  have e142 : ∀ M1, sX8_clause_142 N (x : Int) k x4 x5 M1 = some (zup (zup M1 6 x k) 7 x (100 * x4 + x5)) := fun M1 => by
    unfold sX8_clause_142 zg zl
    dsimp only
    rw [if_pos gx, ix]
  have e145 : ∀ C1, sX5_readClause_145 N C1 = some (1, C1) := fun _ => rfl
  by_cases k2 : k = 112
  · have z0 := p_sk N p5 (lo := 61) (hi := 61) (by omega) (by omega)
    unfold zl zg zi
    dsimp only
    rw [if_pos zk, if_pos k2, if_pos zk, if_pos k2]
    rcases z0 with ⟨s1, ⟨q1, s2, s3⟩, s4, s5, s6⟩ | ⟨s1, ⟨q1, s2, s3⟩, s4, s5⟩
    · -- the sign '=' is there
      obtain ⟨C6, hC6⟩ : ∃ C6, C6 = zAdC C5 := ⟨_, rfl⟩
      obtain ⟨M6, hM6⟩ : ∃ M6, M6 = zAdM M := ⟨_, rfl⟩
      rw [← hC6] at s3 s6
      rw [← hM6] at s4 s6
      have f6 : zFC a C5 C6 := by rw [hC6]; exact zFC.at
      have g6 : zFM x M M6 := by rw [hM6]; exact zFM.at (by omega)
      have nx := c_next N s6
      obtain ⟨v, hv⟩ : ∃ v, v = (if C6 0 2 < C6 0 1 then C6 1 (C6 0 2).toNat else -5) := ⟨_, rfl⟩
      rw [← hv] at nx
      have p7 : zPs (zup C6 5 a (v - 48)) M6 := zPs_rows s6 (zup_other (by decide)) (zup_other (by decide)) rfl rfl
      have z1 := p_sk N p7 (lo := 49) (hi := 57) (by omega) (by omega)
      have eW : ∀ (b : Int) (C' q : zM), fX5_skip N 49 57 (zpk is_0n2 (zup C6 5 a (v - 48))) = some (b, q) → zpt is_0n2 (zup C6 5 a (v - 48)) q = C' → (b = 0 ∨ b = 1) → fX5_readWeight N (a : Int) C5 = some (b, C') := by
        intro b C' q hq1 hq2 hb
        unfold fX5_readWeight zc2 zg zi zl
        rw [s2]
        dsimp only
        rw [if_pos (by decide), if_neg (by decide), s3, nx]
        dsimp only
        rw [if_pos ga, ia, zpt_zpk, hq1]
        dsimp only
        rw [if_pos hb, hq2]
      rcases z1 with ⟨w1, ⟨q2, w2, w3⟩, w4, w5, w6⟩ | ⟨w1, ⟨q2, w2, w3⟩, w4, w5⟩
      · have hW := eW 1 _ q2 w2 w3 (Or.inr rfl)
        have c61 : zup C6 5 a (v - 48) 1 = C6 1 := zup_other (by decide)
        have c60 : zup C6 5 a (v - 48) 0 = C6 0 := zup_other (by decide)
        obtain ⟨w11, w12, w13⟩ := w1
        rw [c60] at w11 w12 w13
        rw [c61] at w12 w13
        rw [c60, c61] at w4
        have hvv : v = C6 1 (C6 0 2).toNat := by rw [hv, if_pos w11]
        rw [hW]
        unfold zc2
        dsimp only
        rw [if_pos (by decide), if_neg (by decide), e145, s4]
        dsimp only
        rw [w4]
        dsimp only
        rw [if_pos gx, ix, e142]
        refine Or.inl ⟨_, _, rfl, rfl, zPs_rows w6 rfl rfl (by rw [zup_other (by decide), zup_other (by decide), zup_other (by decide)]) (by rw [zup_other (by decide), zup_other (by decide), zup_other (by decide)]), (f6.tr (zFC.up (by omega))).tr zFC.at, (((g6.tr (zFM.at (by omega))).tr (zFM.up (by omega))).tr (zFM.up (by omega))).tr (zFM.up (by omega)), ?_⟩
        have y3 : zAdC (zup C6 5 a (v - 48)) 3 a = k := by
          unfold zAdC
          rw [zup_other (by decide), zup_other (by decide), hC6]
          unfold zAdC
          rw [zup_other (by decide)]; exact e3
        have y4 : zAdC (zup C6 5 a (v - 48)) 4 a = x4 * 100 + x5 := by
          unfold zAdC
          rw [zup_other (by decide), zup_other (by decide), hC6]
          unfold zAdC
          rw [zup_other (by decide)]; exact e4
        have y5 : zAdC (zup C6 5 a (v - 48)) 5 a = v - 48 := by
          unfold zAdC
          rw [zup_other (by decide), zup_eq]
        unfold zCl
        rw [y3, y4, y5, zup_other (show (6 : Nat) ≠ 7 by decide), zup_eq, zup_eq, zup_other (show (8 : Nat) ≠ 7 by decide), zup_other (show (8 : Nat) ≠ 6 by decide), zup_eq]
        exact ⟨rfl, by omega, hk, by omega, fun _ => ⟨by rw [hvv], by omega, by omega⟩⟩
      · have hW := eW 0 _ q2 w2 w3 (Or.inl rfl)
        have c60 : zup C6 5 a (v - 48) 0 = C6 0 := zup_other (by decide)
        rw [c60] at w4
        have hf := zPs_f s6
        rw [hW]
        unfold zc2
        dsimp only
        rw [if_pos (by decide), if_pos rfl, s4]
        dsimp only
        rw [w4]
        dsimp only
        rw [if_pos gx, ix, e142]
        refine Or.inr ⟨_, _, rfl, rfl, ?_, ?_, f6.tr (zFC.up (by omega)), (((g6.tr (zFM.at (by omega))).tr (zFM.up (by omega))).tr (zFM.up (by omega))).tr (zFM.up (by omega))⟩
        · rw [zup_other (show (0 : Nat) ≠ 7 by decide), zup_other (show (0 : Nat) ≠ 6 by decide), zup_other (show (0 : Nat) ≠ 8 by decide), zup_eq, c60]
        · rw [c60]; rw [zup_eq] at hf; exact hf
    · have hf := zPs_f p5
      have eW : fX5_readWeight N (a : Int) C5 = some (0, C5) := by
        unfold fX5_readWeight zc2 zg zi zl
        rw [s2]
        dsimp only
        rw [if_pos (by decide), if_pos rfl, s3]
      rw [eW]
      unfold zc2
      dsimp only
      rw [if_pos (by decide), if_pos rfl, s4]
      dsimp only
      rw [f_must N hf]
      dsimp only
      rw [if_pos gx, ix, e142]
      refine Or.inr ⟨_, _, rfl, rfl, ?_, by rw [zup_eq] at hf; exact hf, zFC.rf, (((zFM.at (by omega)).tr (zFM.up (by omega))).tr (zFM.up (by omega))).tr (zFM.up (by omega))⟩
      rw [zup_other (show (0 : Nat) ≠ 7 by decide), zup_other (show (0 : Nat) ≠ 6 by decide), zup_other (show (0 : Nat) ≠ 8 by decide), zup_eq]
  · unfold zl zg zi
    dsimp only
    rw [if_pos zk, if_neg k2, if_pos zk, if_neg k2, e145, e142]
    refine Or.inl ⟨_, _, rfl, rfl, zPs_rows p5 rfl rfl (by rw [zup_other (by decide), zup_other (by decide)]) (by rw [zup_other (by decide), zup_other (by decide)]), zFC.rf, (zFM.up (by omega)).tr (zFM.up (by omega)), ?_⟩
    unfold zCl
    rw [e3, e4, zup_other (show (6 : Nat) ≠ 7 by decide), zup_eq, zup_eq]
    exact ⟨rfl, by omega, hk, by omega, fun q => absurd q k2⟩
