/-! odds, mean, judge -/
theorem st_odds (N : Nat) (hN : 6000 < N) {K : Bool} {c : Int} {MX MM : zM} (h : zInv K c MX MM) (hc : c + 130000 ≤ 1899990000) {a1 a2 a3 : Int} (h1 : zR a1) (h2 : zR a2) (h3 : zR a3) : zOk K (c + 130000) (fX7_odds N a1 a2 a3 MX) (fX8_odds N a1 a2 a3 MM) := by
  obtain ⟨⟨⟨Q0, hs0⟩, hv0⟩, -⟩ := id h
  have hw := h.weak (c' := c + 130000) (by omega)
  obtain ⟨n, n6, e1, e2, eT⟩ := e_trace N h h1
  unfold fX7_odds fX8_odds
  refine zOk_2l e1 (zOk_2r e2 ?_)
  by_cases hk : 0 ≤ a1 ∧ a1 < n
  · rw [if_pos hk]
    obtain ⟨u, rfl⟩ : ∃ u : Nat, a1 = (u : Int) := ⟨a1.toNat, by omega⟩
    have hu6 : u < 6 := by omega
    refine zOk_gl (by decide) (zOk_fl (by decide) (zOk_gl h2 (zOk_gr (by decide) (zOk_fr (by decide) (zOk_cr (e_in N h2 (by decide) (by decide)) ?_)))))
    by_cases k0 : a2 < 0
    · rw [if_neg (show ¬ (0 ≤ a2 ∧ a2 ≤ 20) by omega)]
      exact zOk_tl k0 (zOk_gr (by decide) (zOk_tr rfl (zOk_s rfl hw)))
    · refine zOk_fl k0 ?_
      by_cases k5 : a2 ≤ 20
      · rw [if_pos (show (0 ≤ a2 ∧ a2 ≤ 20) by omega)]
        refine zOk_fl (by omega) (zOk_cl (e_isPart N h3) (zOk_gr (by decide) (zOk_fr (by decide) (zOk_cr (e_in N h3 (by decide) (by decide)) ?_))))
        by_cases kp : 0 ≤ a3 ∧ a3 ≤ 1
        · rw [if_pos kp]
          obtain ⟨R, r1, r2⟩ := tri_save N hN h
          have q10 : MM 1 3200 = MX 2 0 := hs0.es.1.1
          have rb : 0 ≤ MX 2 0 ∧ MX 2 0 ≤ 99 := hs0.rs.1
          obtain ⟨cp, hcp⟩ : ∃ cp : Nat, MX 2 0 = (cp : Int) := ⟨(MX 2 0).toNat, by omega⟩
          have loop : ∀ (m n1 n2 i : Nat) (x : Int) (MX1 MM1 : zM), zTri MX MM MX1 MM1 → i + m = cp + 1 → m < n1 → m < n2 → 0 ≤ x → x ≤ i → zOk K (c + 130000) (fX7_odds_46 N n1 (u : Int) a2 a3 (cp : Int) x (i : Int) MX1) (fX8_odds_48 N n2 (u : Int) a2 a3 x (i : Int) MM1) := by
            intro m
            induction m with
            | zero =>
              intro n1 n2 i x MX1 MM1 t hi hn hn' hx0 hxi
              obtain ⟨n1, rfl⟩ : ∃ x, n1 = x + 1 := ⟨n1 - 1, by omega⟩
              obtain ⟨n2, rfl⟩ : ∃ x, n2 = x + 1 := ⟨n2 - 1, by omega⟩
              have m20 : MM1 1 3200 = (cp : Int) := by rw [t.2.1 3200 (by omega), q10, hcp]
              have s20 : MM1 2 3200 = (cp : Int) := by rw [t.2.2.1 3200 (by omega), q10, hcp]
              obtain ⟨r, p1, p2⟩ := e_part N hN (a := x) (b := (cp : Int) + 1) (t := a3) (by omega) (by omega) h3
              unfold fX7_odds_46 sX7_odds_46 fX8_odds_48 sX8_odds_48
              rw [m20, s20]
              exact zOk_gl (by constructor <;> omega) (zOk_gl (by constructor <;> omega) (zOk_tl (by omega) (zOk_cl p1 (zOk_gr (by constructor <;> omega) (zOk_gr (by constructor <;> omega) (zOk_tr (by omega) (zOk_cr p2 (zOk_s rfl (t.inv h (by omega))))))))))
            | succ m ih =>
              intro n1 n2 i x MX1 MM1 t hi hn hn' hx0 hxi
              obtain ⟨n1, rfl⟩ : ∃ x, n1 = x + 1 := ⟨n1 - 1, by omega⟩
              obtain ⟨n2, rfl⟩ : ∃ x, n2 = x + 1 := ⟨n2 - 1, by omega⟩
              have m20 : MM1 1 3200 = (cp : Int) := by rw [t.2.1 3200 (by omega), q10, hcp]
              have s20 : MM1 2 3200 = (cp : Int) := by rw [t.2.2.1 3200 (by omega), q10, hcp]
              have hd1 : fX7_odds_46 N (n1 + 1) (u : Int) a2 a3 (cp : Int) x (i : Int) MX1 = sX7_odds_46 N (fun x1 x2 x3 x4 x5 x6 M0 => fX7_odds_46 N n1 x1 x2 x3 x4 x5 x6 M0) (u : Int) a2 a3 (cp : Int) x (i : Int) MX1 := rfl
              have hd2 : fX8_odds_48 N (n2 + 1) (u : Int) a2 a3 x (i : Int) MM1 = sX8_odds_48 N (fun x1 x2 x3 x4 x5 M0 => fX8_odds_48 N n2 x1 x2 x3 x4 x5 M0) (u : Int) a2 a3 x (i : Int) MM1 := rfl
              obtain ⟨r, MX2, MM2, M3, MM3, b1, b2, b3, b4, b5, b6, b7, R3, p1, p2⟩ := tri_run N hN h t hc (cap := (cp : Int)) (bor := (i : Int)) (by omega) (by omega) hu6 (by omega) eT
              have hsame : zup MM1 1 3200 (cp : Int) = MM1 := by
                have := zup_same MM1 1 3200
                rw [m20] at this
                exact this
              rw [hsame] at b2
              rw [hd1, hd2]
              unfold sX7_odds_46 sX8_odds_48
              rw [s20, show ((u : Int)).toNat = u by omega]
              refine zOk_gl (by constructor <;> omega) (zOk_gl (by constructor <;> omega) (zOk_fl (by omega) (zOk_cl b1 (zOk_gl (by omega) (zOk_2l b3 (zOk_ll (zOk_gl b5 (zOk_gl h2 ?_))))))))
              refine zOk_gr (by constructor <;> omega) (zOk_gr (by constructor <;> omega) (zOk_fr (by omega) (zOk_lr (zOk_cr b2 (zOk_2r b4 (zOk_gr b5 (zOk_gr h2 ?_)))))))
              have ii : (i : Int) + 1 = ((i + 1 : Nat) : Int) := by omega
              unfold sX7_odds_81 sX8_odds_91
              by_cases hr : r < a2
              · refine zOk_tl hr (zOk_tr hr (zOk_ll (zOk_lr (zOk_cr p1 (zOk_lr (zOk_lr ?_))))))
                rw [ii, Int.add_zero]
                exact ih n1 n2 (i + 1) x _ _ p2 (by omega) (by omega) (by omega) (by omega) (by omega)
              · refine zOk_fl hr (zOk_fr hr (zOk_ll (zOk_ll (zOk_lr (zOk_cr p1 (zOk_lr (zOk_lr ?_)))))))
                rw [ii]
                exact ih n1 n2 (i + 1) (x + 1) _ _ p2 (by omega) (by omega) (by omega) (by omega) (by omega)
          refine zOk_gl (by decide) (zOk_fl (by decide) (zOk_ll (zOk_ll (zOk_ll (zOk_gr (by decide) (zOk_fr (by decide) (zOk_cr r1 (zOk_lr (zOk_lr (zOk_lr ?_))))))))))
          rw [hcp]
          exact loop (cp + 1) N N 0 0 MX _ r2 (by omega) (by omega) (by omega) (by omega) (by omega)
        · rw [if_neg kp]
          exact zOk_gl (by decide) (zOk_tl rfl (zOk_gr (by decide) (zOk_tr rfl (zOk_s rfl hw))))
      · rw [if_neg (show ¬ (0 ≤ a2 ∧ a2 ≤ 20) by omega)]
        exact zOk_tl (by omega) (zOk_gr (by decide) (zOk_tr rfl (zOk_s rfl hw)))
  · rw [if_neg hk]
    exact zOk_gl (by decide) (zOk_tl rfl (zOk_gr (by decide) (zOk_tr rfl (zOk_s rfl hw))))
theorem x_mean (N : Nat) {MX : zM} {w : Nat} {l : List Nat} (hw : w < 5) (h : zQR (zpk is_4n5 MX) w l) (x2 : Int) : ∀ (s p : List Nat) (n : Nat), l = p ++ s → s.length < n →
    fX7_mean_53 N n x2 (l.length : Int) (zsm (fun k => MX 12 k) p) (((s ++ [400 + w]).headD 0 : Nat) : Int) (p.length : Int) MX = zc (fX7_partOf N (zsm (fun k => MX 12 k) l) (l.length : Int) x2) fun r => some (r, MX) := by
  have hlen := zQR_len h
  intro s
  induction s with
  | nil =>
    intro p n hl hn
    obtain ⟨n, rfl⟩ : ∃ m, n = m + 1 := ⟨n - 1, by omega⟩
    rw [List.append_nil] at hl
    subst hl
    unfold fX7_mean_53 sX7_mean_53 zg zi
    rw [if_pos (by constructor <;> omega), if_pos (by constructor <;> omega), if_pos (by omega)]
  | cons k s ih =>
    intro p n hl hn
    obtain ⟨n, rfl⟩ : ∃ m, n = m + 1 := ⟨n - 1, by omega⟩
    show sX7_mean_53 N (fun x2 x3 x4 x5 x6 M0 => fX7_mean_53 N n x2 x3 x4 x5 x6 M0) x2 (l.length : Int) (zsm (fun k => MX 12 k) p) (k : Int) (p.length : Int) MX = _
    have hk : k ∈ l := by rw [hl]; simp
    have hk4 := h.2.2.1 k hk
    have hpl : p.length < l.length := by rw [hl]; simp
    have hnx := zQR_next (q := zpk is_4n5 MX) (w := w) (p := p) (s := s) (k := k) (by rw [← hl]; exact h)
    have hnx : MX 7 k = ((s ++ [400 + w]).headD 0 : Nat) := hnx
    unfold sX7_mean_53 zg zi zl
    dsimp only
    rw [show ((k : Int)).toNat = k by omega, if_pos (by constructor <;> omega), if_pos (by constructor <;> omega), if_neg (by omega), if_pos (by omega), if_pos (by omega), hnx]
    have := ih (p ++ [k]) n (by rw [hl]; simp) (by simp at hn; omega)
    rw [show ((p ++ [k]).length : Int) = (p.length : Int) + 1 by simp, zsm_app, zsm_cons] at this
    rw [show zsm (fun k => MX 12 k) p + MX 12 k = zsm (fun k => MX 12 k) p + (MX 12 k + zsm (fun k => MX 12 k) []) by unfold zsm; simp]
    exact this
theorem m_mean (N : Nat) (hN : 400 < N) {c : Int} {Q : Nat → List Nat} {M : zM} {w : Nat} (h : zMI c Q (M 1)) (hw : 1 ≤ w) (hw4 : w ≤ 4) (x2 : Int) : ∀ (m n i : Nat), i + m = 400 → m < n → fX8_mean_35 N n (w : Int) x2 (zpf (fun k => M 1 (1200 + k)) (Q w) i) (i : Int) M = zc (fX8_part N (zsm (fun k => M 1 (1200 + k)) (Q w)) ((Q w).length : Int) x2) fun r => some (r, M) := by
  obtain ⟨-, hm, -, hn⟩ := h.1 w hw hw4
  have hr := h.2.1
  intro m
  induction m with
  | zero =>
    intro n i hi hn'
    obtain ⟨n, rfl⟩ : ∃ x, n = x + 1 := ⟨n - 1, by omega⟩
    have hi4 : i = 400 := by omega
    subst hi4
    unfold fX8_mean_35 sX8_mean_35 zg zi zc2
    rw [if_pos (by decide), if_pos (by decide), zpf_all (fun x hx => ((hm x).mp hx).1), m_many N hN h hw hw4]
  | succ m ih =>
    intro n i hi hn'
    obtain ⟨n, rfl⟩ : ∃ x, n = x + 1 := ⟨n - 1, by omega⟩
    obtain ⟨r0, r4⟩ := hr i (by omega)
    have hd : fX8_mean_35 N (n + 1) (w : Int) x2 (zpf (fun k => M 1 (1200 + k)) (Q w) i) (i : Int) M = sX8_mean_35 N (fun x1 x2 x3 x4 M0 => fX8_mean_35 N n x1 x2 x3 x4 M0) (w : Int) x2 (zpf (fun k => M 1 (1200 + k)) (Q w) i) (i : Int) M := rfl
    have hs := zpf_succ (f := fun k => M 1 (1200 + k)) (i := i) hn
    have := ih n (i + 1) (by omega) (by omega)
    rw [hd]
    unfold sX8_mean_35 sX8_mean_72 zg zi zl
    dsimp only
    rw [show ((0 : Int) + (i : Int)).toNat = i by omega, show ((1200 : Int) + (i : Int)).toNat = 1200 + i by omega, if_pos (by constructor <;> omega), if_neg (by omega), if_pos (by omega), if_pos (by constructor <;> omega), if_pos (by constructor <;> omega), show (i : Int) + 1 = ((i + 1 : Nat) : Int) by omega]
    by_cases hiw : M 1 i = (w : Int)
    · rw [if_pos hiw, if_pos (by omega)]
      rw [if_pos ((hm i).mpr ⟨by omega, hiw⟩)] at hs
      rw [← hs]; exact this
    · rw [if_neg hiw]
      rw [if_neg (fun q => hiw ((hm i).mp q).2)] at hs
      rw [← hs]; exact this
theorem st_mean (N : Nat) (hN : 6000 < N) {K : Bool} {c : Int} {MX MM : zM} (h : zInv K c MX MM) {a1 a2 : Int} (h1 : zR a1) (h2 : zR a2) : zOk K (c + 130000) (fX7_mean N a1 a2 MX) (fX8_mean N a1 a2 MM) := by
  obtain ⟨⟨⟨Q, hs⟩, hv⟩, -⟩ := id h
  have hw := h.weak (c' := c + 130000) (by omega)
  have go : ∀ w : Nat, w = 1 ∨ w = 2 → zOk K (c + 130000) (sX7_mean_10 N (w : Int) a2 MX) (fX8_mean N (w : Int) a2 MM) := by
    intro w hw12
    have hR : zQR (zpk is_4n5 MX) w (Q w) := (hs.ci.1.1 w (by omega) (by omega)).1
    have hlen := zQR_len hR
    have hsz : MX 5 w = ((Q w).length : Int) := zCI_size hs.ci (w := w) (by omega) (by omega)
    unfold sX7_mean_10 fX8_mean
    refine zOk_cl (e_isPart N h2) (zOk_cr (e_in N (by constructor <;> omega) (by decide) (by decide)) ?_)
    rw [if_pos (show (1 : Int) ≤ (w : Int) ∧ (w : Int) ≤ 2 by omega)]
    refine zOk_gr (by decide) (zOk_fr (by decide) (zOk_cr (e_in N h2 (by decide) (by decide)) ?_))
    by_cases kp : 0 ≤ a2 ∧ a2 ≤ 1
    · rw [if_pos kp]
      refine zOk_gl (by decide) (zOk_fl (by decide) (zOk_gl (by omega) (zOk_ll (zOk_ll (zOk_2l (zQ_oldest N (by omega) hR) (zOk_ll (zOk_ll (zOk_ll ?_))))))))
      refine zOk_gr (by decide) (zOk_fr (by decide) (zOk_2r (m_many N (by omega) hs.mi (by omega) (by omega)) (zOk_gr (by constructor <;> omega) ?_)))
      rw [zpt_zpk, show ((w : Int)).toNat = w by omega, hsz]
      have ex := x_mean N (by omega) hR a2 (Q w) [] N rfl (by omega)
      have ex : fX7_mean_53 N N a2 ((Q w).length : Int) 0 (((Q w ++ [400 + w]).headD 0 : Nat) : Int) 0 MX = zc (fX7_partOf N (zsm (fun k => MX 12 k) (Q w)) ((Q w).length : Int) a2) fun r => some (r, MX) := ex
      rw [ex]
      by_cases l0 : ((Q w).length : Int) = 0
      · have hnil : Q w = [] := List.length_eq_zero_iff.mp (by omega)
        have e0 : fX7_partOf N (zsm (fun k => MX 12 k) (Q w)) ((Q w).length : Int) a2 = some (-9223372036854775808) := by
          rw [hnil]
          obtain ⟨n, rfl⟩ : ∃ x, N = x + 1 := ⟨N - 1, by omega⟩
          have g0 : fX7_commonDivisor (n + 1) 0 0 = some 0 := by
            unfold fX7_commonDivisor fX7_commonDivisor_7 sX7_commonDivisor_7 sX7_commonDivisor_34 zg zi zl
            dsimp only
            rw [if_pos (by decide), if_neg (by decide), if_pos (by decide), if_pos rfl]
          show fX7_partOf (n + 1) 0 0 a2 = _
          unfold fX7_partOf zc zl zg zi
          rw [g0]
          dsimp only
          rw [if_pos (by decide), if_pos rfl]
        exact zOk_cl e0 (zOk_tr l0 (zOk_s rfl hw))
      · refine zOk_fr l0 (zOk_lr (zOk_lr ?_))
        have em := m_mean N (by omega) hs.mi (w := w) (by omega) (by omega) a2 400 N 0 (by omega) (by omega)
        rw [zpf_zero] at em
        have em : fX8_mean_35 N N (w : Int) a2 0 0 MM = _ := em
        rw [em]
        have hco : zsm (fun k => MM 1 (1200 + k)) (Q w) = zsm (fun k => MX 12 k) (Q w) := zsm_congr (fun k hk => (hs.ef k ((zCI_mem hs.ci (by omega) (by omega)).mp hk).1).2.2.2.1)
        rw [hco]
        have hge : 0 ≤ zsm (fun k => MX 12 k) (Q w) := zsm_ge (fun k hk => (hs.rf k ((zCI_mem hs.ci (by omega) (by omega)).mp hk).1).2.1.1)
        have hle := zsm_le (f := fun k => MX 12 k) (l := Q w) (m := 99) (fun k hk => (hs.rf k ((zCI_mem hs.ci (by omega) (by omega)).mp hk).1).2.1.2)
        obtain ⟨r, p1, p2⟩ := e_part N hN (a := zsm (fun k => MX 12 k) (Q w)) (b := ((Q w).length : Int)) (t := a2) (by omega) (by omega) h2
        exact zOk_cl p1 (zOk_cr p2 (zOk_s rfl hw))
    · rw [if_neg kp]
      exact zOk_gl (by decide) (zOk_tl rfl (zOk_gr (by decide) (zOk_tr rfl (zOk_s rfl hw))))
  unfold fX7_mean
  refine zOk_gl h1 ?_
  by_cases q1 : a1 = 1
  · subst q1; exact zOk_tl rfl (go 1 (Or.inl rfl))
  · refine zOk_fl q1 ?_
    by_cases q2 : a1 = 2
    · subst q2; exact zOk_tl rfl (go 2 (Or.inr rfl))
    · refine zOk_fl q2 ?_
      unfold fX8_mean
      refine zOk_cr (e_in N h1 (by decide) (by decide)) ?_
      rw [if_neg (show ¬ (1 ≤ a1 ∧ a1 ≤ 2) by omega)]
      exact zOk_gr (by decide) (zOk_tr rfl (zOk_s rfl hw))
theorem e_tape7 (N : Nat) {a : Int} (h : zR a) : fX7_isTape N a = some (if 0 ≤ a ∧ a ≤ 5 then 1 else 0) := by
  unfold fX7_isTape zg zi
  rw [if_pos h]
  by_cases h0 : a < 0
  · rw [if_pos h0, if_neg (by omega)]
  · rw [if_neg h0]
    by_cases h1 : 6 ≤ a
    · rw [if_pos h1, if_neg (by omega)]
    · rw [if_neg h1, if_pos (by omega)]
theorem e_tape8 (N : Nat) {a : Int} (h : zR a) : fX8_isTape N a = some (if 0 ≤ a ∧ a ≤ 5 then 1 else 0) := by
  unfold fX8_isTape zg zc
  rw [e_in N h (by decide) (by decide)]
  dsimp only
  by_cases q : 0 ≤ a ∧ a ≤ 5
  · rw [if_pos q, if_pos (Or.inr rfl)]
  · rw [if_neg q, if_pos (Or.inl rfl)]
theorem st_judge (N : Nat) (hN : 6000 < N) {K : Bool} {c : Int} {MX MM : zM} (h : zInv K c MX MM) (hc : c ≤ 1899990000) {a1 a2 : Int} (h1 : zR a1) (h2 : zR a2) : zOk K (c + 130000) (fX7_judge N a1 a2 MX) (fX8_judge N a1 a2 MM) := by
  obtain ⟨⟨⟨Q, hs⟩, hv⟩, -, -, -, hp⟩ := id h
  have hw := h.weak (c' := c + 130000) (by omega)
  have hR : zQR (zpk is_4n5 MX) 1 (Q 1) := (hs.ci.1.1 1 (by omega) (by omega)).1
  have hlen := zQR_len hR
  have hsz : MX 5 1 = ((Q 1).length : Int) := zCI_size hs.ci (w := 1) (by omega) (by omega)
  unfold fX7_judge fX8_judge
  refine zOk_cl (e_tape7 N h1) (zOk_cr (e_tape8 N h1) ?_)
  by_cases hk : 0 ≤ a1 ∧ a1 ≤ 5
  · rw [if_pos hk]
    obtain ⟨u, rfl⟩ : ∃ u : Nat, a1 = (u : Int) := ⟨a1.toNat, by omega⟩
    have hu6 : u < 6 := by omega
    have eu : ((u : Int)).toNat = u := by omega
    obtain ⟨t1, ⟨t2, t3⟩, t4, ⟨t5, t6⟩, t7, t8⟩ := hp u hu6
    -- the loop: y0 items of the tape are behind a2
    have loop : ∀ (y0 : Int), (y0 = if MM 10 u = -1 ∨ a2 < 0 ∨ MM 11 u < a2 then 0 else MM 11 u - a2) → ∀ (s p : List Nat) (n1 n2 : Nat), Q 1 = p ++ s → s.length < n1 → s.length < n2 →
        zOk K (c + 130000) (fX7_judge_97 N (u : Int) n1 a2 ((Q 1).length : Int) y0 (((s ++ [400 + 1]).headD 0 : Nat) : Int) (p.length : Int) MX) (fX8_judge_40 N n2 (u : Int) a2 ((Q 1).length : Int) (p.length : Int) MM) := by
      intro y0 hy0 s
      have y0r : 0 ≤ y0 ∧ y0 ≤ 60 := by rw [hy0]; split <;> omega
      induction s with
      | nil =>
        intro p n1 n2 hl hn hn'
        obtain ⟨n1, rfl⟩ : ∃ m, n1 = m + 1 := ⟨n1 - 1, by omega⟩
        obtain ⟨n2, rfl⟩ : ∃ m, n2 = m + 1 := ⟨n2 - 1, by omega⟩
        rw [List.append_nil] at hl
        rw [← hl]
        unfold fX7_judge_97 sX7_judge_97 fX8_judge_40 sX8_judge_40
        exact zOk_gl (by constructor <;> omega) (zOk_gl (by constructor <;> omega) (zOk_tl (by omega) (zOk_gr (by constructor <;> omega) (zOk_gr (by constructor <;> omega) (zOk_tr (by omega) (zOk_s rfl hw))))))
      | cons k s ih =>
        intro p n1 n2 hl hn hn'
        obtain ⟨n1, rfl⟩ : ∃ m, n1 = m + 1 := ⟨n1 - 1, by omega⟩
        obtain ⟨n2, rfl⟩ : ∃ m, n2 = m + 1 := ⟨n2 - 1, by omega⟩
        have hk : k ∈ Q 1 := by rw [hl]; simp
        have hk4 := hR.2.2.1 k hk
        have hpl : p.length < (Q 1).length := by rw [hl]; simp
        have hnx : MX 7 k = ((s ++ [400 + 1]).headD 0 : Nat) := zQR_next (q := zpk is_4n5 MX) (w := 1) (p := p) (s := s) (k := k) (by rw [← hl]; exact hR)
        have hka := m_keyAt N (by omega) (by omega) hs.mi (w := 1) (by omega) (by omega) (j := (p.length : Int)) (by omega)
        have hat : (Q 1)[((p.length : Int)).toNat]? = some k := by
          rw [show ((p.length : Int)).toNat = p.length by omega, hl]
          simp
        rw [hat] at hka
        have hka : fX8_keyAt N 1 (p.length : Int) MM = some ((k : Int), MM) := hka
        have hd1 : fX7_judge_97 N (u : Int) (n1 + 1) a2 ((Q 1).length : Int) y0 (k : Int) (p.length : Int) MX = sX7_judge_97 N (u : Int) (fun x2 x4 x5 x6 x7 M0 => fX7_judge_97 N (u : Int) n1 x2 x4 x5 x6 x7 M0) a2 ((Q 1).length : Int) y0 (k : Int) (p.length : Int) MX := rfl
        have hd2 : fX8_judge_40 N (n2 + 1) (u : Int) a2 ((Q 1).length : Int) (p.length : Int) MM = sX8_judge_40 N (fun x1 x2 x3 x4 M0 => fX8_judge_40 N n2 x1 x2 x3 x4 M0) (u : Int) a2 ((Q 1).length : Int) (p.length : Int) MM := rfl
        show zOk K (c + 130000) (fX7_judge_97 N (u : Int) (n1 + 1) a2 ((Q 1).length : Int) y0 (k : Int) (p.length : Int) MX) _
        rw [hd1, hd2]
        unfold sX7_judge_97 sX8_judge_40 sX8_judge_72
        rw [eu]
        refine zOk_gl (by constructor <;> omega) (zOk_gl (by constructor <;> omega) (zOk_fl (by omega) (zOk_gl (by constructor <;> omega) ?_)))
        refine zOk_gr (by constructor <;> omega) (zOk_gr (by constructor <;> omega) (zOk_fr (by omega) (zOk_gr (by omega) (zOk_gr (by constructor <;> omega) ?_))))
        by_cases hy : (p.length : Int) < y0
        · rw [hy0] at hy
          have hno : ¬ (MM 10 u = -1 ∨ a2 < 0 ∨ MM 11 u < a2) := by
            intro q
            rw [if_pos q] at hy
            omega
          rw [if_neg hno] at hy
          have hy' : (p.length : Int) < y0 := by rw [hy0, if_neg hno]; exact hy
          obtain ⟨j, hj⟩ : ∃ j : Nat, a2 + (p.length : Int) = (j : Int) := ⟨(a2 + (p.length : Int)).toNat, by omega⟩
          have hj60 : j < 60 := by omega
          obtain ⟨it1, it2⟩ := t8 j hj60
          rw [hj, show ((j : Int)).toNat = j by omega]
          refine zOk_tl hy' (zOk_gl (by omega) (zOk_gl (by constructor <;> omega) (zOk_gl it2 (zOk_gl (by constructor <;> omega) ?_))))
          refine zOk_fr (by omega) (zOk_gr h2 (zOk_fr (by omega) (zOk_gr (by constructor <;> omega) (zOk_tr (by omega) (zOk_gr (by omega) (zOk_2r hka (zOk_gr (by constructor <;> omega) ?_)))))))
          rw [← it1]
          refine zOk_gr it2 (zOk_gr (by constructor <;> omega) ?_)
          by_cases he : MX (71 + 2 * u + 1) j = (k : Int)
          · refine zOk_tl he (zOk_tr he (zOk_gl (by omega) (zOk_ll (zOk_ll (zOk_lr ?_)))))
            rw [show ((k : Int)).toNat = k by omega, hnx]
            have := ih (p ++ [k]) n1 n2 (by rw [hl]; simp) (by simp at hn; omega) (by simp at hn'; omega)
            rw [show ((p ++ [k]).length : Int) = (p.length : Int) + 1 by simp] at this
            exact this
          · exact zOk_fl he (zOk_fr he (zOk_s rfl hw))
        · refine zOk_fl hy ?_
          by_cases g1 : MM 10 u < 0
          · exact zOk_tr g1 (zOk_s rfl hw)
          · refine zOk_fr g1 (zOk_gr h2 ?_)
            by_cases g2 : a2 < 0
            · exact zOk_tr g2 (zOk_s rfl hw)
            · refine zOk_fr g2 (zOk_gr (by constructor <;> omega) (zOk_fr ?_ (zOk_s rfl hw)))
              intro g3
              rw [hy0, if_neg (by omega)] at hy
              omega
    have go : zOk K (c + 130000) (sX7_judge_35 N (u : Int) a2 MX) (sX8_judge_31 N (u : Int) a2 MM) := by
      have e79 : ∀ y0, (y0 = if MM 10 u = -1 ∨ a2 < 0 ∨ MM 11 u < a2 then 0 else MM 11 u - a2) → zOk K (c + 130000) (sX7_judge_79 N (u : Int) a2 (MX 5 1) y0 MX) (sX8_judge_31 N (u : Int) a2 MM) := by
        intro y0 hy0
        unfold sX7_judge_79 sX8_judge_31
        refine zOk_ll (zOk_2l (zQ_oldest N (w := 1) (by omega) hR) (zOk_ll (zOk_ll (zOk_ll ?_))))
        refine zOk_2r (m_many N (by omega) hs.mi (w := 1) (by omega) (by omega)) (zOk_lr (zOk_lr ?_))
        rw [zpt_zpk, hsz]
        exact loop y0 hy0 (Q 1) [] N N rfl (by omega) (by omega)
      unfold sX7_judge_35 sX7_judge_69
      rw [eu, t1, t4]
      refine zOk_ll (zOk_gl (by constructor <;> omega) ?_)
      by_cases g1 : MM 10 u = -1
      · exact zOk_tl g1 (e79 0 (by rw [if_pos (Or.inl g1)]))
      · refine zOk_fl g1 (zOk_gl h2 ?_)
        by_cases g2 : a2 < 0
        · exact zOk_tl g2 (e79 0 (by rw [if_pos (Or.inr (Or.inl g2))]))
        · refine zOk_fl g2 (zOk_gl (by constructor <;> omega) ?_)
          by_cases g3 : a2 ≤ MM 11 u
          · exact zOk_tl g3 (e79 _ (by rw [if_neg (by omega)]))
          · exact zOk_fl g3 (e79 0 (by rw [if_pos (by omega)]))
    refine zOk_gl (by decide) (zOk_fl (by decide) (zOk_gl (by omega) (zOk_gr (by decide) (zOk_fr (by decide) (zOk_gr (by omega) ?_)))))
    rw [eu, t1]
    refine zOk_gl (by constructor <;> omega) (zOk_gr (by constructor <;> omega) ?_)
    by_cases g1 : MM 10 u = -1
    · exact zOk_tl g1 (zOk_tr (by omega) go)
    · refine zOk_fl g1 (zOk_fr (by omega) ?_)
      by_cases g2 : MM 10 u = 1
      · exact zOk_tl g2 (zOk_tr g2 go)
      · exact zOk_fl g2 (zOk_fr g2 (zOk_s rfl hw))
  · rw [if_neg hk]
    exact zOk_gl (by decide) (zOk_tl rfl (zOk_gr (by decide) (zOk_tr rfl (zOk_s rfl hw))))
