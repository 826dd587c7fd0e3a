/-! tape, item, read, shift -/
theorem zInv_tape {K : Bool} {c c' : Int} {MX MM MX' MM' : zM} (h : zInv K c MX MM) (hX : ∀ r, ¬ (71 ≤ r ∧ r ≤ 82) → MX' r = MX r) (hM : ∀ r, r < 10 ∨ r = 12 → MM' r = MM r) (ht : zTps MX' MM') (hc : c ≤ c') : zInv K c' MX' MM' := by
  obtain ⟨⟨⟨Q, hs⟩, hv⟩, ⟨k1, k2⟩, ⟨t1, t2, t3⟩, ⟨n, n1, n2, n3, n4⟩, -⟩ := h
  refine ⟨⟨⟨Q, (zSim_M (zSim_rows hs (fun r hr => hX (r + 1) (by omega))) (hM 1 (by omega)) (by rw [hM 0 (by omega)]) (hM 4 (by omega))).weak hc⟩, zRv_rows hv (hX 16 (by omega))⟩, ⟨by rw [hM 0 (by omega)]; exact k1, fun q => ?_⟩, ⟨?_, ?_, ?_⟩, ⟨n, n1, by rw [hX 0 (by omega)]; exact n2, by rw [hM 0 (by omega)]; exact n3, fun t ht => zTre_fr (n4 t ht) (fun r hr => hX (r + (46 + 4 * t)) (by omega)) (fun i _ _ => ?_) ?_⟩, ht⟩
  · obtain ⟨⟨Qk, s1⟩, s2⟩ := k2 q
    have e : zmk MM' = zmk MM := by
      unfold zmk
      rw [hM 3 (by omega)]
    refine ⟨⟨Qk, ?_⟩, zRv_rows s2 (hX 98 (by omega))⟩
    rw [e]
    exact (zSim_rows s1 (fun r _ => hX (r + 83) (by omega))).weak hc
  · rw [hX 43 (by omega), hM 0 (by omega)]; exact t1
  · rw [hX 43 (by omega)]; exact t2
  · rw [hX 43 (by omega), hX 44 (by omega), hM 5 (by omega)]; exact t3
  · rw [hM 6 (by omega), hM 7 (by omega), hM 8 (by omega)]; exact ⟨rfl, rfl, rfl⟩
  · rw [hM 9 (by omega)]
theorem is71 : ∀ u : Nat, u < 6 → va_nd (is_f71n2 u) = true := by decide
theorem x_become (N : Nat) (hN : 100 < N) (a b : Int) (q : zM) : ∃ q', fX4_become N a b q = some q' ∧ q' 0 1 = a ∧ q' 0 2 = b ∧ ∀ j, j < 60 → q' 1 j = 0 := by
  have loop : ∀ (m n i : Nat) (q0 : zM), i + m = 60 → m < n → (∀ j, j < i → q0 1 j = 0) → ∃ q', fX4_become_2 N n a b (i : Int) q0 = some q' ∧ q' 0 1 = a ∧ q' 0 2 = b ∧ ∀ j, j < 60 → q' 1 j = 0 := by
    intro m
    induction m with
    | zero =>
      intro n i q0 hi hn h0
      obtain ⟨n, rfl⟩ : ∃ x, n = x + 1 := ⟨n - 1, by omega⟩
      refine ⟨zup (zup q0 0 1 a) 0 2 b, ?_, ?_, zup_eq _ _ _ _, fun j hj => ?_⟩
      · unfold fX4_become_2 sX4_become_2 zg zi zl
        rw [if_pos (by constructor <;> omega), if_pos (by omega)]
      · rw [zup_self, if_neg (by decide), zup_eq]
      · rw [zup_other (by decide), zup_other (by decide)]; exact h0 j (by omega)
    | succ m ih =>
      intro n i q0 hi hn h0
      obtain ⟨n, rfl⟩ : ∃ x, n = x + 1 := ⟨n - 1, by omega⟩
      have hd : fX4_become_2 N (n + 1) a b (i : Int) q0 = sX4_become_2 N (fun x1 x2 x3 M0 => fX4_become_2 N n x1 x2 x3 M0) a b (i : Int) q0 := rfl
      rw [hd]
      unfold sX4_become_2 zg zi zl
      dsimp only
      rw [if_pos (by constructor <;> omega), if_neg (by omega), if_pos (by omega), show ((i : Int)).toNat = i by omega, show (i : Int) + 1 = ((i + 1 : Nat) : Int) by omega]
      refine ih n (i + 1) _ (by omega) (by omega) (fun j hj => ?_)
      rw [zup_self]
      by_cases hji : j = i
      · rw [if_pos hji]
      · rw [if_neg hji]; exact h0 j (by omega)
  unfold fX4_become zl
  exact loop 60 N 0 q (by omega) (by omega) (fun j hj => by omega)
theorem m_zero (N : Nat) {K : Bool} {u : Nat} (hu : u < 6) (M : zM) : ∀ (m n i : Nat) (M0 : zM), i + m = 60 → m < n → (∀ r, r ≠ 13 + u → M0 r = M r) → (∀ j, j < i → M0 (13 + u) j = 0) → ∃ M', fX8_tape_67 N n (u : Int) (i : Int) M0 = some (1, M') ∧ (∀ r, r ≠ 13 + u → M' r = M r) ∧ ∀ j, j < 60 → M' (13 + u) j = 0 := by
  intro m
  induction m with
  | zero =>
    intro n i M0 hi hn h1 h0
    obtain ⟨n, rfl⟩ : ∃ x, n = x + 1 := ⟨n - 1, by omega⟩
    refine ⟨M0, ?_, h1, fun j hj => h0 j (by omega)⟩
    unfold fX8_tape_67 sX8_tape_67 zg zi
    rw [if_pos (by constructor <;> omega), if_pos (by omega)]
  | succ m ih =>
    intro n i M0 hi hn h1 h0
    obtain ⟨n, rfl⟩ : ∃ x, n = x + 1 := ⟨n - 1, by omega⟩
    have hd : fX8_tape_67 N (n + 1) (u : Int) (i : Int) M0 = sX8_tape_67 N (fun x1 x4 M0 => fX8_tape_67 N n x1 x4 M0) (u : Int) (i : Int) M0 := rfl
    rw [hd]
    unfold sX8_tape_67 zg zi zl
    dsimp only
    rw [if_pos (by constructor <;> omega), if_neg (by omega), if_pos (by omega), if_pos (by omega), show ((i : Int)).toNat = i by omega, show ((u : Int)).toNat = u by omega, Nat.one_mul, show (i : Int) + 1 = ((i + 1 : Nat) : Int) by omega]
    refine ih n (i + 1) _ (by omega) (by omega) (fun r hr => (zup_other hr).trans (h1 r hr)) (fun j hj => ?_)
    rw [zup_self]
    by_cases hji : j = i
    · rw [if_pos hji]
    · rw [if_neg hji]; exact h0 j (by omega)
theorem st_tape (N : Nat) (hN : 6000 < N) {K : Bool} {c : Int} {MX MM : zM} (h : zInv K c MX MM) {a1 a2 a3 : Int} (h1 : zR a1) (h2 : zR a2) (h3 : zR a3) : zOk K (c + 130000) (fX7_tape N a1 a2 a3 MX) (fX8_tape N a1 a2 a3 MM) := by
  have hw := h.weak (c' := c + 130000) (by omega)
  have hp := h.2.2.2.2
  unfold fX7_tape fX8_tape
  refine zOk_cl (e_tape7 N h1) (zOk_cr (e_tape8 N h1) ?_)
  by_cases hk : 0 ≤ a1 ∧ a1 ≤ 5
  · rw [if_pos hk]
    obtain ⟨u, rfl⟩ : ∃ u : Nat, a1 = (u : Int) := ⟨a1.toNat, by omega⟩
    have hu6 : u < 6 := by omega
    have eu : ((u : Int)).toNat = u := by omega
    refine zOk_gl (by decide) (zOk_fl (by decide) (zOk_gl h2 (zOk_gr (by decide) (zOk_fr (by decide) (zOk_cr (e_in N h2 (by decide) (by decide)) ?_)))))
    -- both become of sort s and length e
    have both : ∀ (s e : Int), (-1 ≤ s ∧ s ≤ 4) → (0 ≤ e ∧ e ≤ 60) → (s = -1 → e = 0) → ∃ q', fX4_become N s e (zpk (is_f71n2 u) MX) = some q' ∧ ∃ M', (zl (zup (zup MM 10 u s) 11 u e) fun M13 => zl ((0 : Int)) fun v14 => fX8_tape_67 N N (u : Int) v14 M13) = some (1, M') ∧ zInv K (c + 130000) (zpt (is_f71n2 u) MX q') M' := by
      intro s e hs he hse
      obtain ⟨q', b1, b2, b3, b4⟩ := x_become N (by omega) s e (zpk (is_f71n2 u) MX)
      obtain ⟨M', m1, m2, m3⟩ := m_zero N (K := K) hu6 (zup (zup MM 10 u s) 11 u e) 60 N 0 _ (by omega) (by omega) (fun _ _ => rfl) (fun j hj => by omega)
      refine ⟨q', b1, M', m1, zInv_tape h (fun r hr => zpt_off (fun q => ?_)) (fun r hr => ?_) (fun i hi => ?_) (by omega)⟩
      · have : r = 71 + 2 * u ∨ r = 71 + 2 * u + 1 := by
          rcases List.mem_cons.mp q with q | q
          · exact Or.inl q
          · rcases List.mem_cons.mp q with q | q
            · exact Or.inr q
            · cases q
        omega
      · rw [m2 r (by omega), zup_other (by omega), zup_other (by omega)]
      · have nd := is71 u hu6
        have m10 : ∀ j, M' 10 j = if j = u then s else MM 10 j := fun j => by rw [m2 10 (by omega), zup_other (by decide), zup_self]
        have m11 : ∀ j, M' 11 j = if j = u then e else MM 11 j := fun j => by rw [m2 11 (by omega), zup_self, zup_other (by decide)]
        rw [m10, m11]
        by_cases hiu : i = u
        · subst hiu
          have z0 : zpt (is_f71n2 i) MX q' (71 + 2 * i) = q' 0 := zpt_at nd rfl
          have z1 : zpt (is_f71n2 i) MX q' (71 + 2 * i + 1) = q' 1 := zpt_at nd rfl
          rw [z0, z1, if_pos rfl, if_pos rfl, Nat.one_mul]
          exact ⟨b2, hs, b3, he, hse, fun j hj => ⟨by rw [b4 j hj, m3 j hj], by rw [b4 j hj]; decide⟩⟩
        · rw [if_neg hiu, if_neg hiu]
          have off : ∀ r, r = 71 + 2 * i ∨ r = 71 + 2 * i + 1 → zpt (is_f71n2 u) MX q' r = MX r := fun r hr => zpt_off (fun q => by
            rcases List.mem_cons.mp q with q | q
            · omega
            · rcases List.mem_cons.mp q with q | q
              · omega
              · cases q)
          rw [off _ (Or.inl rfl), off _ (Or.inr rfl), m2 (13 + 1 * i) (by omega), zup_other (by omega), zup_other (by omega)]
          exact hp i hi
    have e42 : ∀ (s e : Int), (-1 ≤ s ∧ s ≤ 4) → zR e → (s = -1 ∨ (0 ≤ e ∧ e ≤ 60)) → sX8_tape_42 N (u : Int) s e MM = (zl (zup (zup MM 10 u s) 11 u (if 0 ≤ s then e else 0)) fun M13 => zl ((0 : Int)) fun v14 => fX8_tape_67 N N (u : Int) v14 M13) := by
      intro s e hs he hse
      unfold sX8_tape_42 sX8_tape_63 zg zi zl
      dsimp only
      have gu : 0 ≤ (u : Int) ∧ (u : Int) < 6 := by omega
      rw [eu, if_pos gu, if_pos (show zR s by constructor <;> omega)]
      by_cases q : 0 ≤ s
      · rw [if_pos q, if_pos gu, if_pos q]
      · rw [if_neg q, if_pos gu, if_neg q]
    by_cases k0 : a2 < -1
    · rw [if_neg (show ¬ (-1 ≤ a2 ∧ a2 ≤ 4) by omega)]
      exact zOk_tl k0 (zOk_gr (by decide) (zOk_tr rfl (zOk_s rfl hw)))
    · refine zOk_fl k0 ?_
      by_cases k4 : a2 ≤ 4
      · rw [if_pos (show (-1 ≤ a2 ∧ a2 ≤ 4) by omega)]
        refine zOk_tl k4 (zOk_gr (by decide) (zOk_fr (by decide) (zOk_gr h2 ?_)))
        by_cases km : a2 = -1
        · obtain ⟨q', b1, M', m1, hi⟩ := both (-1) 0 (by omega) (by omega) (fun _ => rfl)
          have := e42 (-1) a3 (by omega) h3 (Or.inl rfl)
          rw [if_neg (by decide), m1] at this
          subst km
          unfold sX8_tape_31
          refine zOk_tl rfl (zOk_gl (by omega) (zOk_tr (by decide) (zOk_gr (by decide) (zOk_tr (by decide) ?_))))
          rw [this, eu]
          exact zOk_cl b1 (zOk_ll (zOk_s rfl hi))
        · refine zOk_fl km (zOk_gl h3 (zOk_fr (by omega) (zOk_gr h3 ?_)))
          by_cases k60 : a3 ≤ 60
          · refine zOk_tl k60 (zOk_tr k60 ?_)
            unfold sX8_tape_31
            refine zOk_gr h2 (zOk_fr (by omega) (zOk_gr h3 ?_))
            by_cases k3 : 0 ≤ a3
            · obtain ⟨q', b1, M', m1, hi⟩ := both a2 a3 (by omega) (by omega) (fun q => absurd q km)
              have := e42 a2 a3 (by omega) h3 (Or.inr (by omega))
              rw [if_pos (show 0 ≤ a2 by omega), m1] at this
              refine zOk_tl k3 (zOk_gl (by omega) (zOk_tr k3 ?_))
              rw [this, eu]
              exact zOk_cl b1 (zOk_ll (zOk_s rfl hi))
            · exact zOk_fl k3 (zOk_fr k3 (zOk_s rfl hw))
          · exact zOk_fl k60 (zOk_fr k60 (zOk_s rfl hw))
      · rw [if_neg (show ¬ (-1 ≤ a2 ∧ a2 ≤ 4) by omega)]
        exact zOk_fl k4 (zOk_gr (by decide) (zOk_tr rfl (zOk_s rfl hw)))
  · rw [if_neg hk]
    exact zOk_gl (by decide) (zOk_tl rfl (zOk_gr (by decide) (zOk_tr rfl (zOk_s rfl hw))))
theorem zI_r (a : Int) : zR (zI a) := by
  have h1 := (Int32.ofInt a).le_toInt
  have h2 := (Int32.ofInt a).toInt_lt
  unfold zI
  constructor <;> omega
theorem zB_r (a : Int) : zR (zB a) := by
  have h1 := (Int8.ofInt a).le_toInt
  have h2 := (Int8.ofInt a).toInt_lt
  unfold zB
  constructor <;> omega
theorem zS_r (a : Int) : zR (zS a) := by
  have h1 := (Int16.ofInt a).le_toInt
  have h2 := (Int16.ofInt a).toInt_lt
  unfold zS
  constructor <;> omega
theorem zRL_of {a : Int} (h : zR a) : zRL a := ⟨by have := h.1; omega, by have := h.2; omega⟩
theorem e_fit (N : Nat) {s a : Int} (hs : 0 ≤ s ∧ s ≤ 4) (ha : zRL a) (q : zM) (hq : q 0 1 = s) : ∃ v, fX4_asItem N a q = some (v, q) ∧ fX8_fit N s a = some v ∧ zRL v := by
  unfold fX4_asItem fX8_fit zg zi
  rw [hq, if_pos (show zR s by constructor <;> omega), if_pos (show zR s by constructor <;> omega)]
  obtain rfl | rfl | rfl | rfl | rfl : s = 0 ∨ s = 1 ∨ s = 2 ∨ s = 3 ∨ s = 4 := by omega
  · rw [if_neg (by decide), if_pos rfl, if_pos (zB_r _), if_neg (by decide), if_pos rfl, if_pos (zB_r _)]
    exact ⟨_, rfl, rfl, zRL_of (zB_r _)⟩
  · rw [if_neg (by decide), if_neg (by decide), if_pos rfl, if_pos (zS_r _), if_neg (by decide), if_neg (by decide), if_pos rfl, if_pos (zS_r _)]
    exact ⟨_, rfl, rfl, zRL_of (zS_r _)⟩
  · rw [if_neg (by decide), if_neg (by decide), if_neg (by decide), if_pos rfl, if_pos (zI_r _), if_neg (by decide), if_neg (by decide), if_neg (by decide), if_pos rfl, if_pos (zI_r _)]
    exact ⟨_, rfl, rfl, zRL_of (zI_r _)⟩
  · rw [if_neg (by decide), if_neg (by decide), if_neg (by decide), if_neg (by decide), if_pos rfl, if_neg (by decide), if_neg (by decide), if_neg (by decide), if_neg (by decide), if_pos rfl]
    exact ⟨_, rfl, rfl, ha⟩
  · have g4 : (4 : Int) < 0 ∨ (3 : Int) < 4 := by decide
    rw [if_pos g4, if_pos ha]
    by_cases h0 : a = 0
    · rw [if_pos h0, if_pos g4, if_pos ha, if_pos h0]; exact ⟨_, rfl, rfl, by decide⟩
    · rw [if_neg h0, if_pos g4, if_pos ha, if_neg h0]; exact ⟨_, rfl, rfl, by decide⟩
theorem st_item (N : Nat) {K : Bool} {c : Int} {MX MM : zM} (h : zInv K c MX MM) {a1 a2 a3 : Int} (h1 : zR a1) (h2 : zR a2) (h3 : zRL a3) : zOk K (c + 130000) (fX7_item N a1 a2 a3 MX) (fX8_item N a1 a2 a3 MM) := by
  have hw := h.weak (c' := c + 130000) (by omega)
  have hp := h.2.2.2.2
  unfold fX7_item fX8_item
  refine zOk_cl (e_tape7 N h1) (zOk_cr (e_tape8 N h1) ?_)
  by_cases hk : 0 ≤ a1 ∧ a1 ≤ 5
  · rw [if_pos hk]
    obtain ⟨u, rfl⟩ : ∃ u : Nat, a1 = (u : Int) := ⟨a1.toNat, by omega⟩
    have hu6 : u < 6 := by omega
    have eu : ((u : Int)).toNat = u := by omega
    obtain ⟨t1, ⟨t2, t3⟩, t4, ⟨t5, t6⟩, t7, t8⟩ := hp u hu6
    rw [eu, t1, t4]
    refine zOk_gl (by decide) (zOk_fl (by decide) (zOk_gl (by omega) (zOk_gl (by constructor <;> omega) (zOk_gr (by decide) (zOk_fr (by decide) (zOk_gr (by omega) (zOk_gr (by constructor <;> omega) ?_)))))))
    by_cases km : MM 10 u = -1
    · exact zOk_tl km (zOk_fr (by omega) (zOk_s rfl hw))
    · refine zOk_fl km (zOk_tr (by omega) (zOk_gl h2 (zOk_cr (e_in N h2 (by decide) (by constructor <;> omega)) ?_)))
      by_cases k0 : a2 < 0
      · rw [if_neg (show ¬ (0 ≤ a2 ∧ a2 ≤ MM 11 u - 1) by omega)]
        exact zOk_tl k0 (zOk_gr (by decide) (zOk_tr rfl (zOk_s rfl hw)))
      · refine zOk_fl k0 (zOk_gl (by constructor <;> omega) ?_)
        by_cases kl : a2 < MM 11 u
        · rw [if_pos (show (0 ≤ a2 ∧ a2 ≤ MM 11 u - 1) by omega)]
          obtain ⟨v, v1, v2, v3⟩ := e_fit N (s := MM 10 u) (by omega) h3 (zpk (is_f71n2 u) MX) t1
          refine zOk_tl kl (zOk_2l v1 (zOk_ll (zOk_gl (by omega) (zOk_ll (zOk_gr (by decide) (zOk_fr (by decide) (zOk_cr v2 (zOk_gr (by omega) (zOk_lr (zOk_s rfl ?_)))))))))) 
          rw [zpt_zpk]
          obtain ⟨j, rfl⟩ : ∃ j : Nat, a2 = (j : Int) := ⟨a2.toNat, by omega⟩
          rw [show ((j : Int)).toNat = j by omega]
          refine zInv_tape h (fun r hr => zup_other (by omega)) (fun r hr => zup_other (by omega)) (fun i hi => ?_) (by omega)
          rw [zup_other (by omega), zup_other (by omega), zup_other (by omega)]
          obtain ⟨y1, y2, y3, y4, y5, y6⟩ := hp i hi
          refine ⟨y1, y2, y3, y4, y5, fun b hb => ?_⟩
          by_cases hiu : i = u
          · subst hiu
            rw [zup_self, zup_self]
            by_cases hbj : b = j
            · rw [if_pos hbj, if_pos hbj]; exact ⟨rfl, v3⟩
            · rw [if_neg hbj, if_neg hbj]; exact y6 b hb
          · rw [zup_other (by omega), zup_other (by omega)]
            exact y6 b hb
        · rw [if_neg (show ¬ (0 ≤ a2 ∧ a2 ≤ MM 11 u - 1) by omega)]
          exact zOk_fl kl (zOk_gr (by decide) (zOk_tr rfl (zOk_s rfl hw)))
  · rw [if_neg hk]
    exact zOk_gl (by decide) (zOk_tl rfl (zOk_gr (by decide) (zOk_tr rfl (zOk_s rfl hw))))
theorem st_read (N : Nat) {K : Bool} {c : Int} {MX MM : zM} (h : zInv K c MX MM) {a1 a2 : Int} (h1 : zR a1) (h2 : zR a2) : zOk K (c + 130000) (fX7_read N a1 a2 MX) (fX8_read N a1 a2 MM) := by
  have hw := h.weak (c' := c + 130000) (by omega)
  have hp := h.2.2.2.2
  unfold fX7_read fX8_read
  refine zOk_cl (e_tape7 N h1) (zOk_cr (e_tape8 N h1) ?_)
  by_cases hk : 0 ≤ a1 ∧ a1 ≤ 5
  · rw [if_pos hk]
    obtain ⟨u, rfl⟩ : ∃ u : Nat, a1 = (u : Int) := ⟨a1.toNat, by omega⟩
    have hu6 : u < 6 := by omega
    have eu : ((u : Int)).toNat = u := by omega
    obtain ⟨t1, ⟨t2, t3⟩, t4, ⟨t5, t6⟩, t7, t8⟩ := hp u hu6
    rw [eu, t4]
    refine zOk_gl (by decide) (zOk_fl (by decide) (zOk_gl (by omega) (zOk_gl h2 (zOk_gr (by decide) (zOk_fr (by decide) (zOk_gr (by omega) (zOk_gr (by constructor <;> omega) ?_)))))))
    by_cases km : MM 10 u < 0
    · have := t7 (by omega)
      refine zOk_tr km ?_
      by_cases k0 : a2 < 0
      · exact zOk_tl k0 (zOk_s rfl hw)
      · exact zOk_fl k0 (zOk_gl (by constructor <;> omega) (zOk_tl (by omega) (zOk_s rfl hw)))
    · refine zOk_fr km (zOk_cr (e_in N h2 (by decide) (by constructor <;> omega)) ?_)
      by_cases k0 : a2 < 0
      · rw [if_neg (show ¬ (0 ≤ a2 ∧ a2 ≤ MM 11 u - 1) by omega)]
        exact zOk_tl k0 (zOk_gr (by decide) (zOk_tr rfl (zOk_s rfl hw)))
      · refine zOk_fl k0 (zOk_gl (by constructor <;> omega) ?_)
        by_cases kl : MM 11 u ≤ a2
        · rw [if_neg (show ¬ (0 ≤ a2 ∧ a2 ≤ MM 11 u - 1) by omega)]
          exact zOk_tl kl (zOk_gr (by decide) (zOk_tr rfl (zOk_s rfl hw)))
        · rw [if_pos (show (0 ≤ a2 ∧ a2 ≤ MM 11 u - 1) by omega)]
          exact zOk_fl kl (zOk_gl (by omega) (zOk_gr (by decide) (zOk_fr (by decide) (zOk_gr (by omega) (zOk_s (t8 a2.toNat (by omega)).1 hw)))))
  · rw [if_neg hk]
    exact zOk_gl (by decide) (zOk_tl rfl (zOk_gr (by decide) (zOk_tr rfl (zOk_s rfl hw))))
