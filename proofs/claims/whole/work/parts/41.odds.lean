/-! would, need, odds, mean -/
theorem e_gcd (N : Nat) : ∀ (m n n' : Nat) (x2 x3 x4 : Int), 0 ≤ x2 → x2 ≤ 2147483647 → 0 ≤ x3 → x3 ≤ m → x3 ≤ 2147483647 → 0 ≤ x4 → x4 + m ≤ 999999 → m < n → m < n' → (0 < x2 ∨ 0 < x3) →
    ∃ d, fX7_commonDivisor_7 N n x2 x3 x4 = some d ∧ fX8_common_4 N n' x2 x3 = some d ∧ 0 < d ∧ d ≤ 2147483647 := by
  intro m
  induction m with
  | zero =>
    intro n n' x2 x3 x4 h1 h2 h3 h4 h4' h5 h6 hn hn' hp
    obtain ⟨n, rfl⟩ : ∃ x, n = x + 1 := ⟨n - 1, by omega⟩
    obtain ⟨n', rfl⟩ : ∃ x, n' = x + 1 := ⟨n' - 1, by omega⟩
    have h30 : x3 = 0 := by omega
    subst h30
    refine ⟨x2, ?_, ?_, by omega, h2⟩
    · unfold fX7_commonDivisor_7 sX7_commonDivisor_7 sX7_commonDivisor_34 zg zi
      rw [if_pos (by constructor <;> omega), if_neg (by omega), if_pos (by decide), if_pos rfl]
    · unfold fX8_common_4 sX8_common_4 zg zi
      rw [if_pos (by decide), if_pos rfl]
  | succ m ih =>
    intro n n' x2 x3 x4 h1 h2 h3 h4 h4' h5 h6 hn hn' hp
    obtain ⟨n, rfl⟩ : ∃ x, n = x + 1 := ⟨n - 1, by omega⟩
    obtain ⟨n', rfl⟩ : ∃ x, n' = x + 1 := ⟨n' - 1, by omega⟩
    have hd1 : fX7_commonDivisor_7 N (n + 1) x2 x3 x4 = sX7_commonDivisor_7 N (fun x2 x3 x4 => fX7_commonDivisor_7 N n x2 x3 x4) x2 x3 x4 := rfl
    have hd2 : fX8_common_4 N (n' + 1) x2 x3 = sX8_common_4 N (fun x2 x3 => fX8_common_4 N n' x2 x3) x2 x3 := rfl
    rw [hd1, hd2]
    unfold sX7_commonDivisor_7 sX7_commonDivisor_34 sX8_common_4 zg zi zl
    dsimp only
    have zx3 : zR x3 := by constructor <;> omega
    rw [if_pos (show zR x4 by constructor <;> omega), if_neg (by omega), if_pos zx3]
    by_cases h30 : x3 = 0
    · rw [if_pos h30, if_pos zx3, if_pos h30]
      exact ⟨x2, rfl, rfl, by omega, h2⟩
    · rw [if_neg h30, if_pos (show (0 ≤ x2 ∧ x2 ≤ 2147483647) ∧ 0 < x3 ∧ x3 ≤ 2147483647 by omega), if_pos zx3, if_neg h30, if_pos (show (0 ≤ x2 ∧ x2 ≤ 2147483647) ∧ 0 < x3 ∧ x3 ≤ 2147483647 by omega)]
      have m1 := Int.emod_nonneg x2 h30
      have m2 := Int.emod_lt_of_pos x2 (show 0 < x3 by omega)
      exact ih n n' x3 (x2 % x3) (x4 + 1) h3 h4' m1 (by omega) (by omega) (by omega) (by omega) (by omega) (by omega) (Or.inl (by omega))
theorem e_part (N : Nat) (hN : 6000 < N) {a b t : Int} (ha : 0 ≤ a ∧ a ≤ 2147483647) (hb : 1 ≤ b ∧ b ≤ 5000) (ht : zR t) : ∃ r, fX7_partOf N a b t = some r ∧ fX8_part N a b t = some r := by
  obtain ⟨d, d1, d2, d3, d4⟩ := e_gcd N 5000 N N a b 0 ha.1 ha.2 (by omega) (by omega) (by omega) (by omega) (by omega) (by omega) (by omega) (Or.inr (by omega))
  have g1 : fX7_commonDivisor N a b = some d := d1
  have g2 : fX8_common N a b = some d := d2
  have qa : zR (a / d) := by
    have q1 := Int.ediv_nonneg ha.1 (show 0 ≤ d by omega)
    have q2 := Int.ediv_le_self d ha.1
    constructor <;> omega
  have qb : zR (b / d) := by
    have q1 := Int.ediv_nonneg (show 0 ≤ b by omega) (show 0 ≤ d by omega)
    have q2 := Int.ediv_le_self d (show 0 ≤ b by omega)
    constructor <;> omega
  refine ⟨if t = 0 then a / d else b / d, ?_, ?_⟩
  · unfold fX7_partOf sX7_partOf_27 zc zg zi zl
    rw [g1]
    dsimp only
    rw [if_pos (by constructor <;> omega), if_neg (by omega), if_pos (by constructor <;> omega), if_neg (by omega), if_pos ht]
    by_cases t0 : t = 0
    · rw [if_pos t0, if_pos (by omega), if_pos qa, if_pos t0]
    · rw [if_neg t0, if_pos (by omega), if_pos qb, if_neg t0]
  · unfold fX8_part zc zg zi zl
    rw [g2]
    dsimp only
    rw [if_pos ht]
    by_cases t0 : t = 0
    · rw [if_pos t0, if_pos (by omega), if_pos qa, if_pos t0]
    · rw [if_neg t0, if_pos (by omega), if_pos qb, if_neg t0]
theorem e_isPart (N : Nat) {a : Int} (h : zR a) : fX7_isPart N a = some (if 0 ≤ a ∧ a ≤ 1 then 1 else 0) := by
  unfold fX7_isPart sX7_isPart_9 zg zi
  rw [if_pos h]
  by_cases h0 : a = 0
  · rw [if_pos h0, if_pos (by omega)]
  · rw [if_neg h0]
    by_cases h1 : a = 1
    · rw [if_pos h1, if_pos (by omega)]
    · rw [if_neg h1, if_neg (by omega)]
theorem st_would (N : Nat) (hN : 6000 < N) {K : Bool} {c : Int} {MX MM : zM} (h : zInv K c MX MM) (hc : c + 130000 ≤ 1899990000) {a1 a2 : Int} (h1 : zR a1) (h2 : zR a2) : zOk K (c + 130000) (fX7_would N a1 a2 MX) (fX8_would N a1 a2 MM) := by
  obtain ⟨⟨⟨Q0, hs0⟩, hv0⟩, -⟩ := id h
  have hw := h.weak (c' := c + 130000) (by omega)
  obtain ⟨n, n6, e1, e2, eT⟩ := e_trace N h h1
  unfold fX7_would fX8_would
  refine zOk_2l e1 (zOk_2r e2 ?_)
  by_cases hk : 0 ≤ a1 ∧ a1 < n
  · rw [if_pos hk]
    obtain ⟨t, rfl⟩ : ∃ t : Nat, a1 = (t : Int) := ⟨a1.toNat, by omega⟩
    have ht6 : t < 6 := by omega
    refine zOk_gl (by decide) (zOk_fl (by decide) (zOk_gl h2 (zOk_gr (by decide) (zOk_fr (by decide) (zOk_cr (e_in N h2 (by decide) (by decide)) ?_)))))
    by_cases k0 : a2 < 0
    · rw [if_neg (show ¬ (0 ≤ a2 ∧ a2 ≤ 5) by omega)]
      exact zOk_tl k0 (zOk_gr (by decide) (zOk_tr rfl (zOk_s rfl hw)))
    · refine zOk_fl k0 ?_
      by_cases k5 : a2 ≤ 5
      · rw [if_pos (show (0 ≤ a2 ∧ a2 ≤ 5) by omega)]
        obtain ⟨R, r1, r2⟩ := tri_save N hN h
        obtain ⟨Q, M', q1, q2, q3, q4, q5, q6⟩ := tri_copy N hN h r2
        obtain ⟨M1, hM1⟩ : ∃ M1, M1 = zpt is_1n1_2n1 MM R := ⟨_, rfl⟩
        obtain ⟨X1, hX1⟩ : ∃ X1, X1 = zpt is_22n21_1n21 MX M' := ⟨_, rfl⟩
        rw [← hM1] at r2 q2
        rw [← hX1] at q2 q3 q4 q5
        obtain ⟨i1, i2, i3⟩ := is22T t ht6
        have hT : zTre t (zsh (46 + 4 * t) X1) M1 := zTre_fr (eT t (by omega)) (fun r hr => q4 (r + (46 + 4 * t)) (by omega)) (fun i _ _ => by
          have o := r2.2.2.2.1.1
          rw [o 6 (by decide) (by decide), o 7 (by decide) (by decide), o 8 (by decide) (by decide)]
          exact ⟨rfl, rfl, rfl⟩) (by rw [r2.2.2.2.1.1 9 (by decide) (by decide)])
        obtain ⟨r, Q', M2, MM2, b1, b2, b3, b4, b5, b6, b7, b8, b9⟩ := x_runs N hN i1 rfl i2 i3 ht6 q2 q3 hT (by omega)
        refine zOk_tl k5 (zOk_cl q1 (zOk_ll (zOk_gl (by omega) (zOk_gr (by decide) (zOk_fr (by decide) (zOk_cr r1 (zOk_lr ?_)))))))
        rw [← hM1, ← hX1, show ((t : Int)).toNat = t by omega]
        refine zOk_2l b1 (zOk_ll (zOk_2r b2 (zOk_gr h2 ?_)))
        obtain ⟨X2, hX2⟩ : ∃ X2, X2 = zpt (is_22n21_f46n4 t) X1 M2 := ⟨_, rfl⟩
        rw [← hX2] at b3 b4 b5 b6
        rw [← hX2]
        have live : ∀ r, ¬ (22 ≤ r ∧ r ≤ 42) → X2 r = MX r := fun r hr => (b5 r (by omega)).trans (q4 r hr)
        have sv : ∀ i, i < 3253 → MM2 2 i = MM 1 i := fun i hi => by rw [b7.1 2 (by decide) (by decide) (by decide)]; exact r2.2.2.1 i hi
        have fin : ∀ v v' : Int, v = v' → ∀ X3, (∀ r, ¬ (22 ≤ r ∧ r ≤ 42) → X3 r = MX r) → zOk K (c + 130000) (some (v, X3)) (sX8_would_140 N v' MM2) := by
          intro v v' hvv X3 hX3
          unfold sX8_would_140
          obtain ⟨R3, p1, p2⟩ := tri_back N hN r2 (MX2 := X3) hX3 b7.off (b7.1 2 (by decide) (by decide) (by decide)) b3.gg.1
          exact zOk_lr (zOk_cr p1 (zOk_lr (zOk_s hvv (p2.inv h (by omega)))))
        obtain ⟨⟨z0, z1, z2, z3⟩, y0, y1, y2, y3, y4⟩ := b3.es
        obtain ⟨-, x0, x1, x2, x3, x4⟩ := hs0.es
        have x0 : MM 1 3209 = MX 3 0 := x0
        have x1 : MM 1 3210 = MX 3 1 := x1
        have x2 : MM 1 3211 = MX 3 2 := x2
        have L3 : X2 3 = MX 3 := live 3 (by decide)
        have L17 : X2 17 = MX 17 := live 17 (by decide)
        obtain e | e | e | e | e | e : a2 = 0 ∨ a2 = 1 ∨ a2 = 2 ∨ a2 = 3 ∨ a2 = 4 ∨ a2 = 5 := by omega
        · subst e
          refine zOk_fl (by decide) (zOk_tl rfl (zOk_tr (by decide) (zOk_gr (by decide) (zOk_lr (fin _ _ ?_ _ live)))))
          rw [show ((3209 : Int) + 0).toNat = 3209 by decide, sv 3209 (by omega), x0, L3, y0]; rfl
        · subst e
          refine zOk_fl (by decide) (zOk_fl (by decide) (zOk_tl rfl (zOk_tr (by decide) (zOk_gr (by decide) (zOk_lr (fin _ _ ?_ _ live))))))
          rw [show ((3209 : Int) + 1).toNat = 3210 by decide, sv 3210 (by omega), x1, L3, y1]; rfl
        · subst e
          refine zOk_fl (by decide) (zOk_fl (by decide) (zOk_fl (by decide) (zOk_tl rfl (zOk_tr (by decide) (zOk_gr (by decide) (zOk_lr (fin _ _ ?_ _ live)))))))
          rw [show ((3209 : Int) + 2).toNat = 3211 by decide, sv 3211 (by omega), x2, L3, y2]; rfl
        · subst e
          refine zOk_fl (by decide) (zOk_fl (by decide) (zOk_fl (by decide) (zOk_fl (by decide) (zOk_tl rfl (zOk_fr (by decide) (zOk_tr rfl (zOk_lr (fin _ _ ?_ _ live))))))))
          rw [z1]; rfl
        · subst e
          have ew : fX3_weightOfThings N (zpk is_22n21 X2) = some (zsh 22 X2 5 1 + zsh 22 X2 5 2, zpk is_22n21 X2) := by
            unfold fX3_weightOfThings
            rw [zpk_22 (by decide)]
          refine zOk_fl (by decide) (zOk_fl (by decide) (zOk_fl (by decide) (zOk_fl (by decide) (zOk_fl (by decide) (zOk_tl rfl (zOk_2l ew (zOk_ll (zOk_fr (by decide) (zOk_fr (by decide) (zOk_tr rfl (zOk_lr ?_)))))))))))
          rw [zpt_zpk]
          refine fin _ _ ?_ _ live
          have w1 := zpmv (S' := X2) (M' := MM2) b3 (w := 1) (by omega) (by omega)
          have w2 := zpmv (S' := X2) (M' := MM2) b3 (w := 2) (by omega) (by omega)
          rw [← w1, ← w2]
        · subst e
          refine zOk_tl (by decide) (zOk_fr (by decide) (zOk_fr (by decide) (zOk_fr (by decide) (zOk_tr rfl (zOk_lr (fin _ _ ?_ _ live))))))
          rw [sv 3214 (by omega), hs0.eg.1, L17, b3.eg.1]; rfl
      · rw [if_neg (show ¬ (0 ≤ a2 ∧ a2 ≤ 5) by omega)]
        exact zOk_fl k5 (zOk_gr (by decide) (zOk_tr rfl (zOk_s rfl hw)))
  · rw [if_neg hk]
    exact zOk_gl (by decide) (zOk_tl rfl (zOk_gr (by decide) (zOk_tr rfl (zOk_s rfl hw))))
/-- a trial run with other settings: both say the same, and the reference can take its row back -/
theorem tri_run (N : Nat) (hN : 6000 < N) {K : Bool} {c : Int} {MX MM MX1 MM1 : zM} (h : zInv K c MX MM) (t : zTri MX MM MX1 MM1) (hc : c + 130000 ≤ 1899990000) {cap bor : Int} (h1 : 0 ≤ cap ∧ cap ≤ 99) (h2 : 0 ≤ bor ∧ bor ≤ 99) {u n : Nat} (hu6 : u < 6) (hun : u < n) (eT : ∀ t, t < n → zTre t (zsh (46 + 4 * t) MX) MM) :
    ∃ r MX2 MM2 M3 MM3, fX7_rehearse N cap bor MX1 = some MX2 ∧ fX8_trim N (zup (zup MM1 1 3200 cap) 1 3201 bor) = some MM2 ∧ fX3_perform N (zpk (is_22n21_f46n4 u) MX2) = some (r, M3) ∧ fX8_runs N (u : Int) MM2 = some (r, MM3) ∧ zR r ∧ (∀ r, ¬ (22 ≤ r ∧ r ≤ 42) → zpt (is_22n21_f46n4 u) MX2 M3 r = MX1 r) ∧ MM3 2 = MM1 2 ∧
      ∃ R, fX8_copy N (zpk is_2n1_1n1 MM3) = some R ∧ zTri MX MM (zpt (is_22n21_f46n4 u) MX2 M3) (zpt is_2n1_1n1 MM3 R) := by
  obtain ⟨Q, MX2, MM2, c1, c2, c3, c4, c5, c6⟩ := tri_reh N hN h t (by omega) h1 h2 false (fun q => by cases q)
  obtain ⟨i1, i2, i3⟩ := is22T u hu6
  have t4 := t.2.2.2.1
  have hT : zTre u (zsh (46 + 4 * u) MX2) MM2 := zTre_fr (eT u hun) (fun r hr => (c5 (r + (46 + 4 * u)) (by omega)).trans (t.1 (r + (46 + 4 * u)) (by omega))) (fun i _ _ => by
    have o := (t4.tr c6.off).1
    rw [o 6 (by decide) (by decide), o 7 (by decide) (by decide), o 8 (by decide) (by decide)]
    exact ⟨rfl, rfl, rfl⟩) (by rw [(t4.tr c6.off).1 9 (by decide) (by decide)])
  obtain ⟨r, Q', M3, MM3, b1, b2, b3, b4, b5, b6, b7, b8, b9⟩ := x_runs N hN i1 rfl i2 i3 hu6 c3 c4 hT (by omega)
  have f := c6.tr b7
  obtain ⟨R, p1, p2⟩ := tri_back N hN t (MX2 := zpt (is_22n21_f46n4 u) MX2 M3) (fun r hr => (b5 r (by omega)).trans (c5 r hr)) f.off (f.1 2 (by decide) (by decide) (by decide)) b3.gg.1
  exact ⟨r, MX2, MM2, M3, MM3, c1, c2, b1, b2, by constructor <;> omega, fun r hr => (b5 r (by omega)).trans (c5 r hr), f.1 2 (by decide) (by decide) (by decide), R, p1, p2⟩
theorem st_need (N : Nat) (hN : 6000 < N) {K : Bool} {c : Int} {MX MM : zM} (h : zInv K c MX MM) (hc : c + 130000 ≤ 1899990000) {a1 a2 : Int} (h1 : zR a1) (h2 : zR a2) : zOk K (c + 130000) (fX7_need N a1 a2 MX) (fX8_need N a1 a2 MM) := by
  obtain ⟨⟨⟨Q0, hs0⟩, hv0⟩, -⟩ := id h
  have hw := h.weak (c' := c + 130000) (by omega)
  obtain ⟨n, n6, e1, e2, eT⟩ := e_trace N h h1
  unfold fX7_need fX8_need
  refine zOk_2l e1 (zOk_2r e2 ?_)
  by_cases hk : 0 ≤ a1 ∧ a1 < n
  · rw [if_pos hk]
    obtain ⟨u, rfl⟩ : ∃ u : Nat, a1 = (u : Int) := ⟨a1.toNat, by omega⟩
    have hu6 : u < 6 := by omega
    refine zOk_gl (by decide) (zOk_fl (by decide) (zOk_gl h2 (zOk_gr (by decide) (zOk_fr (by decide) (zOk_cr (e_in N h2 (by decide) (by decide)) ?_)))))
    by_cases k0 : a2 < 0
    · rw [if_neg (show ¬ (0 ≤ a2 ∧ a2 ≤ 20) by omega)]
      exact zOk_tl k0 (zOk_gr (by decide) (zOk_tr rfl (zOk_s rfl hw)))
    · refine zOk_fl k0 ?_
      by_cases k5 : a2 ≤ 20
      · rw [if_pos (show (0 ≤ a2 ∧ a2 ≤ 20) by omega)]
        obtain ⟨R, r1, r2⟩ := tri_save N hN h
        have q11 : MM 1 3201 = MX 2 1 := hs0.es.1.2.1
        have rb := hs0.rs.2.1
        have rb : 0 ≤ MX 2 1 ∧ MX 2 1 ≤ 99 := rb
        have loop : ∀ (m n1 n2 i : Nat) (MX1 MM1 : zM), zTri MX MM MX1 MM1 → i + m = 61 → 1 ≤ i → m < n1 → m + 1 < n2 → zOk K (c + 130000) (fX7_need_25 N n1 (u : Int) a2 (i : Int) MX1) (fX8_need_40 N n2 (u : Int) a2 (-5) (i : Int) MM1) := by
          intro m
          induction m with
          | zero =>
            intro n1 n2 i MX1 MM1 t hi hi1 hn hn'
            obtain ⟨n1, rfl⟩ : ∃ x, n1 = x + 1 := ⟨n1 - 1, by omega⟩
            obtain ⟨n2, rfl⟩ : ∃ x, n2 = x + 1 := ⟨n2 - 1, by omega⟩
            unfold fX7_need_25 sX7_need_25 fX8_need_40 sX8_need_40 sX8_need_90
            exact zOk_gl (by constructor <;> omega) (zOk_tl (by omega) (zOk_gr (by constructor <;> omega) (zOk_tr (by omega) (zOk_s rfl (t.inv h (by omega))))))
          | succ m ih =>
            intro n1 n2 i MX1 MM1 t hi hi1 hn hn'
            obtain ⟨n1, rfl⟩ : ∃ x, n1 = x + 1 := ⟨n1 - 1, by omega⟩
            obtain ⟨n2, rfl⟩ : ∃ x, n2 = x + 1 := ⟨n2 - 1, by omega⟩
            have hd1 : fX7_need_25 N (n1 + 1) (u : Int) a2 (i : Int) MX1 = sX7_need_25 N (fun x1 x2 x3 M0 => fX7_need_25 N n1 x1 x2 x3 M0) (u : Int) a2 (i : Int) MX1 := rfl
            have hd2 : fX8_need_40 N (n2 + 1) (u : Int) a2 (-5) (i : Int) MM1 = sX8_need_40 N (fun x1 x2 x3 x4 M0 => fX8_need_40 N n2 x1 x2 x3 x4 M0) (u : Int) a2 (-5) (i : Int) MM1 := rfl
            have x21 : MX1 2 1 = MX 2 1 := by rw [t.1 2 (by decide)]
            have m21 : MM1 1 3201 = MX 2 1 := by rw [t.2.1 3201 (by omega), q11]
            have hmin : zmin (MX 2 1) (i : Int) = if MX 2 1 ≤ (i : Int) then MX 2 1 else (i : Int) := by
              unfold zmin
              split <;> split <;> omega
            have hminr : 0 ≤ zmin (MX 2 1) (i : Int) ∧ zmin (MX 2 1) (i : Int) ≤ 99 := by rw [hmin]; split <;> omega
            obtain ⟨r, MX2, MM2, M3, MM3, b1, b2, b3, b4, b5, b6, b7, R3, p1, p2⟩ := tri_run N hN h t hc (cap := (i : Int)) (bor := zmin (MX 2 1) (i : Int)) (by omega) hminr hu6 (by omega) eT
            have ecap : fX8_capacity N (i : Int) MM1 = some MM2 := by
              unfold fX8_capacity sX8_capacity_40 zl zg zi zc
              have e3 : zup MM1 1 3200 (i : Int) 1 3201 = MX 2 1 := by rw [zup_self, if_neg (by decide), m21]
              dsimp only
              rw [e3, if_pos (by constructor <;> omega), if_pos (by constructor <;> omega)]
              rw [hmin] at b2
              by_cases hle : MX 2 1 ≤ (i : Int)
              · rw [if_pos hle, if_pos (by decide), show ((3201 : Int)).toNat = 3201 by decide]
                rw [if_pos hle] at b2
                rw [b2]
              · rw [if_neg hle, if_pos (by decide), show ((3201 : Int)).toNat = 3201 by decide]
                rw [if_neg hle] at b2
                rw [b2]
            rw [hd1, hd2]
            unfold sX7_need_25 sX8_need_40
            rw [x21, show ((u : Int)).toNat = u by omega]
            refine zOk_gl (by constructor <;> omega) (zOk_fl (by omega) (zOk_gl (by constructor <;> omega) (zOk_cl b1 (zOk_gl (by omega) (zOk_2l b3 (zOk_ll (zOk_gl b5 (zOk_gl h2 ?_))))))))
            refine zOk_gr (by constructor <;> omega) (zOk_fr (by omega) (zOk_gr (by decide) (zOk_fr (by decide) (zOk_cr ecap (zOk_2r b4 (zOk_gr b5 (zOk_gr h2 ?_)))))))
            have ii : (i : Int) + 1 = ((i + 1 : Nat) : Int) := by omega
            unfold sX8_need_72
            by_cases hr : r < a2
            · refine zOk_tl hr (zOk_tr hr (zOk_ll (zOk_lr (zOk_cr p1 (zOk_lr (zOk_lr ?_))))))
              rw [ii]
              exact ih n1 n2 (i + 1) _ _ p2 (by omega) (by omega) (by omega) (by omega)
            · refine zOk_fl hr (zOk_fr hr (zOk_lr (zOk_cr p1 (zOk_lr (zOk_lr ?_)))))
              rw [ii]
              obtain ⟨n2, rfl⟩ : ∃ x, n2 = x + 1 := ⟨n2 - 1, by omega⟩
              show zOk K (c + 130000) _ (sX8_need_40 N _ (u : Int) a2 (i : Int) ((i + 1 : Nat) : Int) _)
              unfold sX8_need_40 sX8_need_90
              refine zOk_gr (by constructor <;> omega) ?_
              by_cases h60 : (60 : Int) < ((i + 1 : Nat) : Int)
              · exact zOk_tr h60 (zOk_s rfl (p2.inv h (by omega)))
              · exact zOk_fr h60 (zOk_gr (by constructor <;> omega) (zOk_tr (by omega) (zOk_s rfl (p2.inv h (by omega)))))
        refine zOk_tl k5 (zOk_ll (zOk_gr (by decide) (zOk_fr (by decide) (zOk_cr r1 (zOk_lr (zOk_lr (zOk_lr ?_)))))))
        exact loop 60 N N 1 MX _ r2 (by omega) (by omega) (by omega) (by omega)
      · rw [if_neg (show ¬ (0 ≤ a2 ∧ a2 ≤ 20) by omega)]
        exact zOk_fl k5 (zOk_gr (by decide) (zOk_tr rfl (zOk_s rfl hw)))
  · rw [if_neg hk]
    exact zOk_gl (by decide) (zOk_tl rfl (zOk_gr (by decide) (zOk_tr rfl (zOk_s rfl hw))))
