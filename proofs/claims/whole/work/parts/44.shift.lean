/-! shift -/
theorem e_range (N : Nat) {i n len : Int} (hi : zR i) (hn : zR n) (hl : 0 ≤ len ∧ len ≤ 60) (q : zM) (hq : q 0 2 = len) : fX4_hasRange N i n q = some ((if 0 ≤ i ∧ 0 ≤ n ∧ n ≤ len ∧ i ≤ len - n then 1 else 0), q) := by
  unfold fX4_hasRange zg zi
  rw [hq, if_pos hi]
  by_cases q1 : i < 0
  · rw [if_pos q1, if_neg (by omega)]
  · rw [if_neg q1, if_pos hn]
    by_cases q2 : n < 0
    · rw [if_pos q2, if_neg (by omega)]
    · rw [if_neg q2, if_pos (show zR len by constructor <;> omega)]
      by_cases q3 : len < n
      · rw [if_pos q3, if_neg (by omega)]
      · rw [if_neg q3, if_pos (show zR (len - n) by constructor <;> omega)]
        by_cases q4 : len - n < i
        · rw [if_pos q4, if_neg (by omega)]
        · rw [if_neg q4, if_pos (by omega)]
theorem m_sh2 (N : Nat) {u3 len a4 : Nat} (hu3 : u3 < 6) (hr : a4 + len ≤ 60) (T : Nat → Int) (M : zM) : ∀ (m n i : Nat) (M0 : zM), i + m = len → m < n → (∀ j, j < len → M0 19 j = T j) → (∀ r, r ≠ 13 + u3 → r ≠ 19 → M0 r = M r) → (∀ b, M0 (13 + u3) b = if a4 ≤ b ∧ b < a4 + i then T (b - a4) else M (13 + u3) b) →
    ∃ M', fX8_shift_158 N n (u3 : Int) (a4 : Int) (len : Int) (i : Int) M0 = some ((len : Int), M') ∧ (∀ r, r ≠ 13 + u3 → r ≠ 19 → M' r = M r) ∧ ∀ b, M' (13 + u3) b = if a4 ≤ b ∧ b < a4 + len then T (b - a4) else M (13 + u3) b := by
  intro m
  induction m with
  | zero =>
    intro n i M0 hi hn hT h1 h2
    obtain ⟨n, rfl⟩ : ∃ x, n = x + 1 := ⟨n - 1, by omega⟩
    have : i = len := by omega
    subst this
    refine ⟨M0, ?_, h1, h2⟩
    unfold fX8_shift_158 sX8_shift_158 zg zi
    rw [if_pos (by constructor <;> omega), if_pos (by constructor <;> omega), if_pos (by omega)]
  | succ m ih =>
    intro n i M0 hi hn hT h1 h2
    obtain ⟨n, rfl⟩ : ∃ x, n = x + 1 := ⟨n - 1, by omega⟩
    have hd : fX8_shift_158 N (n + 1) (u3 : Int) (a4 : Int) (len : Int) (i : Int) M0 = sX8_shift_158 N (fun x3 x4 x5 x6 M0 => fX8_shift_158 N n x3 x4 x5 x6 M0) (u3 : Int) (a4 : Int) (len : Int) (i : Int) M0 := rfl
    rw [hd]
    unfold sX8_shift_158 zg zi zl
    dsimp only
    rw [if_pos (show zR (i : Int) by constructor <;> omega), if_pos (show zR (len : Int) by constructor <;> omega), if_neg (by omega), if_pos (show 0 ≤ (u3 : Int) ∧ (u3 : Int) < 6 by omega), if_pos (show 0 ≤ (i : Int) ∧ (i : Int) < 60 by omega), if_pos (show 0 ≤ (a4 : Int) + (i : Int) ∧ (a4 : Int) + (i : Int) < 60 by omega), show ((i : Int)).toNat = i by omega, show ((u3 : Int)).toNat = u3 by omega, show ((a4 : Int) + (i : Int)).toNat = a4 + i by omega, Nat.one_mul, show (i : Int) + 1 = ((i + 1 : Nat) : Int) by omega]
    refine ih n (i + 1) _ (by omega) (by omega) (fun j hj => by rw [zup_other (by omega)]; exact hT j hj) (fun r hr hr2 => by rw [zup_other hr]; exact h1 r hr hr2) (fun b => ?_)
    rw [zup_self, h2, hT i (by omega)]
    by_cases hb : b = a4 + i
    · rw [if_pos hb, if_pos (by omega), show b - a4 = i by omega]
    · rw [if_neg hb]
      by_cases hb2 : a4 ≤ b ∧ b < a4 + i
      · rw [if_pos hb2, if_pos (by omega)]
      · rw [if_neg hb2, if_neg (by omega)]
theorem m_sh1 (N : Nat) (hN : 100 < N) {u1 u3 len a2 a4 : Nat} (hu1 : u1 < 6) (hu3 : u3 < 6) (hr2 : a2 + len ≤ 60) (hr : a4 + len ≤ 60) (M : zM) : ∀ (m n i : Nat) (M0 : zM), i + m = len → m < n → (∀ j, j < i → M0 19 j = M (13 + u1) (a2 + j)) → (∀ r, r ≠ 19 → M0 r = M r) →
    ∃ M', fX8_shift_124 N n (u1 : Int) (a2 : Int) (u3 : Int) (a4 : Int) (len : Int) (i : Int) M0 = some ((len : Int), M') ∧ (∀ r, r ≠ 13 + u3 → r ≠ 19 → M' r = M r) ∧ ∀ b, M' (13 + u3) b = if a4 ≤ b ∧ b < a4 + len then M (13 + u1) (a2 + (b - a4)) else M (13 + u3) b := by
  intro m
  induction m with
  | zero =>
    intro n i M0 hi hn hT h1
    obtain ⟨n, rfl⟩ : ∃ x, n = x + 1 := ⟨n - 1, by omega⟩
    have : i = len := by omega
    subst this
    obtain ⟨M', b1, b2, b3⟩ := m_sh2 N hu3 hr (fun j => M (13 + u1) (a2 + j)) M i N 0 M0 (by omega) (by omega) hT (fun r _ hr2 => h1 r hr2) (fun b => by rw [if_neg (by omega), h1 (13 + u3) (by omega)])
    refine ⟨M', ?_, b2, b3⟩
    unfold fX8_shift_124 sX8_shift_124 zg zi zl
    rw [if_pos (by constructor <;> omega), if_pos (by constructor <;> omega), if_pos (by omega)]
    exact b1
  | succ m ih =>
    intro n i M0 hi hn hT h1
    obtain ⟨n, rfl⟩ : ∃ x, n = x + 1 := ⟨n - 1, by omega⟩
    have hd : fX8_shift_124 N (n + 1) (u1 : Int) (a2 : Int) (u3 : Int) (a4 : Int) (len : Int) (i : Int) M0 = sX8_shift_124 N (fun x1 x2 x3 x4 x5 x6 M0 => fX8_shift_124 N n x1 x2 x3 x4 x5 x6 M0) (u1 : Int) (a2 : Int) (u3 : Int) (a4 : Int) (len : Int) (i : Int) M0 := rfl
    rw [hd]
    unfold sX8_shift_124 zg zi zl
    dsimp only
    rw [if_pos (show zR (i : Int) by constructor <;> omega), if_pos (show zR (len : Int) by constructor <;> omega), if_neg (by omega), if_pos (show 0 ≤ (u1 : Int) ∧ (u1 : Int) < 6 by omega), if_pos (show 0 ≤ (a2 : Int) + (i : Int) ∧ (a2 : Int) + (i : Int) < 60 by omega), if_pos (show 0 ≤ (i : Int) ∧ (i : Int) < 60 by omega), show ((i : Int)).toNat = i by omega, show ((u1 : Int)).toNat = u1 by omega, show ((a2 : Int) + (i : Int)).toNat = a2 + i by omega, Nat.one_mul, show (i : Int) + 1 = ((i + 1 : Nat) : Int) by omega]
    refine ih n (i + 1) _ (by omega) (by omega) (fun j hj => ?_) (fun r hr => by rw [zup_other hr]; exact h1 r hr)
    rw [zup_self]
    by_cases hji : j = i
    · rw [if_pos hji, h1 (13 + u1) (by omega), hji]
    · rw [if_neg hji]; exact hT j (by omega)
theorem st_shift (N : Nat) (hN : 6000 < N) {K : Bool} {c : Int} {MX MM : zM} (h : zInv K c MX MM) {a1 a2 a3 a4 a5 : Int} (h1 : zR a1) (h2 : zR a2) (h3 : zR a3) (h4 : zR a4) (h5 : zR a5) : zOk K (c + 130000) (fX7_shift N a1 a2 a3 a4 a5 MX) (fX8_shift N a1 a2 a3 a4 a5 MM) := by
  have hw := h.weak (c' := c + 130000) (by omega)
  have hp := h.2.2.2.2
  unfold fX7_shift fX8_shift
  refine zOk_cl (e_tape7 N h1) (zOk_cr (e_tape8 N h1) ?_)
  by_cases hk : 0 ≤ a1 ∧ a1 ≤ 5
  · rw [if_pos hk]
    obtain ⟨u, rfl⟩ : ∃ u : Nat, a1 = (u : Int) := ⟨a1.toNat, by omega⟩
    have hu6 : u < 6 := by omega
    have eu : ((u : Int)).toNat = u := by omega
    obtain ⟨t1, ⟨t2, t3⟩, t4, ⟨t5, t6⟩, t7, t8⟩ := hp u hu6
    refine zOk_gl (by decide) (zOk_fl (by decide) (zOk_gr (by decide) (zOk_fr (by decide) (zOk_cl (e_tape7 N h3) (zOk_cr (e_tape8 N h3) ?_)))))
    by_cases hk3 : 0 ≤ a3 ∧ a3 ≤ 5
    · rw [if_pos hk3]
      obtain ⟨v, rfl⟩ : ∃ v : Nat, a3 = (v : Int) := ⟨a3.toNat, by omega⟩
      have hv6 : v < 6 := by omega
      have ev : ((v : Int)).toNat = v := by omega
      obtain ⟨s1, ⟨s2, s3⟩, s4, ⟨s5, s6⟩, s7, s8⟩ := hp v hv6
      rw [eu, ev, t1, s1]
      refine zOk_gl (by decide) (zOk_fl (by decide) (zOk_gl (by omega) (zOk_gl (by omega) (zOk_gl (by constructor <;> omega) ?_))))
      refine zOk_gr (by decide) (zOk_fr (by decide) (zOk_gr (by omega) (zOk_gr (by constructor <;> omega) ?_)))
      by_cases km : MM 10 u = -1
      · exact zOk_tl km (zOk_tr (by omega) (zOk_s rfl hw))
      · refine zOk_fl km (zOk_fr (by omega) (zOk_gl (by constructor <;> omega) (zOk_gr (by omega) (zOk_gr (by constructor <;> omega) ?_))))
        by_cases km3 : MM 10 v = -1
        · exact zOk_tl km3 (zOk_fr (by omega) (zOk_s rfl hw))
        · refine zOk_fl km3 (zOk_tr (by omega) ?_)
          by_cases ke : MM 10 u = MM 10 v
          · refine zOk_tl ke (zOk_tr ke ?_)
            have r1 := e_range N h2 h5 ⟨t5, t6⟩ (zpk (is_f71n2 u) MX) t4
            have r2 := e_range N h4 h5 ⟨s5, s6⟩ (zpk (is_f71n2 v) MX) s4
            refine zOk_2l r1 (zOk_ll ?_)
            rw [zpt_zpk]
            refine zOk_gr h5 ?_
            have bad : ∀ y, y = some ((-13 : Int), MM) → ¬ ((0 ≤ a2 ∧ 0 ≤ a5 ∧ a5 ≤ MM 11 u ∧ a2 ≤ MM 11 u - a5) ∧ (0 ≤ a4 ∧ 0 ≤ a5 ∧ a5 ≤ MM 11 v ∧ a4 ≤ MM 11 v - a5)) → zOk K (c + 130000) (zg (zR (if 0 ≤ a2 ∧ 0 ≤ a5 ∧ a5 ≤ MM 11 u ∧ a2 ≤ MM 11 u - a5 then 1 else 0)) <| zi ((if 0 ≤ a2 ∧ 0 ≤ a5 ∧ a5 ≤ MM 11 u ∧ a2 ≤ MM 11 u - a5 then (1 : Int) else 0) = 0) (some ((-13:Int), MX)) <| zc2 (fX4_hasRange N a4 a5 (zpk (is_f71n2 v) MX)) fun r20 M19 =>
                zl (zpt (is_f71n2 v) MX M19) fun M21 => zg (zR r20) <| zi (r20 = 0) (some ((-13:Int), M21)) <|
                zg (0 ≤ a2 ∧ 0 ≤ a4 ∧ 0 ≤ a5 ∧ a2 + a5 ≤ (60:Int) ∧ a4 + a5 ≤ (60:Int)) <|
                zl (zcp M21 (71 + 2 * u + 1) (71 + 2 * v + 1) a2.toNat a4.toNat a5.toNat) fun M24 => some (a5, M24)) y := by
              intro y hy hbad
              rw [hy]
              by_cases g1 : 0 ≤ a2 ∧ 0 ≤ a5 ∧ a5 ≤ MM 11 u ∧ a2 ≤ MM 11 u - a5
              · rw [if_pos g1]
                refine zOk_gl (by decide) (zOk_fl (by decide) (zOk_2l r2 (zOk_ll ?_)))
                rw [zpt_zpk, if_neg (fun q => hbad ⟨g1, q⟩)]
                exact zOk_gl (by decide) (zOk_tl rfl (zOk_s rfl hw))
              · rw [if_neg g1]
                exact zOk_gl (by decide) (zOk_tl rfl (zOk_s rfl hw))
            by_cases g5 : a5 < 0
            · exact bad _ (by unfold zi; rw [if_pos g5]) (by omega)
            · refine zOk_fr g5 (zOk_gr h2 ?_)
              by_cases g2 : a2 < 0
              · exact bad _ (by unfold zi; rw [if_pos g2]) (by omega)
              · refine zOk_fr g2 (zOk_gr h4 ?_)
                by_cases g4 : a4 < 0
                · exact bad _ (by unfold zi; rw [if_pos g4]) (by omega)
                · refine zOk_fr g4 (zOk_gr (by constructor <;> omega) ?_)
                  by_cases gl : MM 11 u < a5
                  · exact bad _ (by unfold zi; rw [if_pos gl]) (by omega)
                  · refine zOk_fr gl (zOk_gr (by constructor <;> omega) ?_)
                    by_cases gl3 : MM 11 v < a5
                    · exact bad _ (by unfold zi; rw [if_pos gl3]) (by omega)
                    · refine zOk_fr gl3 (zOk_gr (by constructor <;> omega) ?_)
                      by_cases gs : MM 11 u - a5 < a2
                      · exact bad _ (by unfold zi; rw [if_pos gs]) (by omega)
                      · refine zOk_fr gs (zOk_gr (by constructor <;> omega) ?_)
                        by_cases gd : a4 ≤ MM 11 v - a5
                        · refine zOk_tr gd (zOk_lr ?_)
                          rw [if_pos (show 0 ≤ a2 ∧ 0 ≤ a5 ∧ a5 ≤ MM 11 u ∧ a2 ≤ MM 11 u - a5 by omega)]
                          refine zOk_gl (by decide) (zOk_fl (by decide) (zOk_2l r2 (zOk_ll ?_)))
                          rw [zpt_zpk, if_pos (show 0 ≤ a4 ∧ 0 ≤ a5 ∧ a5 ≤ MM 11 v ∧ a4 ≤ MM 11 v - a5 by omega)]
                          obtain ⟨i2, rfl⟩ : ∃ i2 : Nat, a2 = (i2 : Int) := ⟨a2.toNat, by omega⟩
                          obtain ⟨i4, rfl⟩ : ∃ i4 : Nat, a4 = (i4 : Int) := ⟨a4.toNat, by omega⟩
                          obtain ⟨len, rfl⟩ : ∃ len : Nat, a5 = (len : Int) := ⟨a5.toNat, by omega⟩
                          obtain ⟨M', m1, m2, m3⟩ := m_sh1 N (by omega) hu6 hv6 (a2 := i2) (a4 := i4) (len := len) (by omega) (by omega) MM len N 0 MM (by omega) (by omega) (fun j hj => by omega) (fun _ _ => rfl)
                          have m1 : fX8_shift_124 N N (u : Int) (i2 : Int) (v : Int) (i4 : Int) (len : Int) 0 MM = some ((len : Int), M') := m1
                          rw [m1, show ((i2 : Int)).toNat = i2 by omega, show ((i4 : Int)).toNat = i4 by omega, show ((len : Int)).toNat = len by omega]
                          refine zOk_gl (by decide) (zOk_fl (by decide) (zOk_gl (by omega) (zOk_ll (zOk_s rfl ?_))))
                          refine zInv_tape h (fun r hr => zcp_ne (by omega)) (fun r hr => m2 r (by omega) (by omega)) (fun i hi => ?_) (by omega)
                          obtain ⟨y1, y2, y3, y4, y5, y6⟩ := hp i hi
                          rw [zcp_ne (by omega), m2 10 (by omega) (by omega), m2 11 (by omega) (by omega)]
                          refine ⟨y1, y2, y3, y4, y5, fun b hb => ?_⟩
                          by_cases hiv : i = v
                          · subst hiv
                            rw [Nat.one_mul, m3]
                            unfold zcp
                            by_cases hb2 : i4 ≤ b ∧ b < i4 + len
                            · rw [if_pos ⟨rfl, hb2⟩, if_pos hb2]
                              have := t8 (i2 + (b - i4)) (by omega)
                              rw [Nat.one_mul] at this
                              exact this
                            · rw [if_neg (fun q => hb2 q.2), if_neg hb2]
                              have := y6 b hb
                              rw [Nat.one_mul] at this
                              exact this
                          · rw [zcp_ne (by omega), m2 (13 + 1 * i) (by omega) (by omega)]
                            exact y6 b hb
                        · refine zOk_fr gd ?_
                          exact bad _ rfl (by omega)
          · exact zOk_fl ke (zOk_fr ke (zOk_s rfl hw))
    · rw [if_neg hk3]
      exact zOk_gl (by decide) (zOk_tl rfl (zOk_gr (by decide) (zOk_tr rfl (zOk_s rfl hw))))
  · rw [if_neg hk]
    exact zOk_gl (by decide) (zOk_tl rfl (zOk_gr (by decide) (zOk_tr rfl (zOk_s rfl hw))))
