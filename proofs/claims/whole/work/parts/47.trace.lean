/-! a whole trace is read -/
theorem zPs_see {C M : zM} (h : zPs C M) {lo hi : Int} (hs : zSee C lo hi) : C 1 (C 0 2).toNat = M 5 (M 0 17).toNat ∧ 0 ≤ M 0 17 ∧ M 0 17 < 100 := by
  obtain ⟨h1, h2, h3, ⟨h4, h5⟩, h6, h7⟩ := h
  obtain ⟨s1, -, -⟩ := hs
  have := (h7 (C 0 2).toNat (by omega)).1
  rw [this, h2]
  exact ⟨rfl, by omega, by omega⟩
theorem zAdC_f {a : Nat} {C : zM} : zFC a C (zAdC C) := zFC.at
theorem zAdM_f {x : Nat} {M : zM} : zFM x M (zAdM M) := zFM.at (by omega)
theorem p_25 (N : Nat) {C M : zM} (h : zPs C M) (h' : zPs (zAdC C) (zAdM M)) {a x : Nat} (ha : a < 20) (hx : x < 120) {k : Int} (hk : k = 103 ∨ k = 112 ∨ k = 120) :
    zOut a x C M (sX5_readClause_25 N (a : Int) k C) (sX8_clause_49 N (x : Int) k (zAdM M)) := by
  have zk : zR k := by constructor <;> omega
  refine zOut.pre (C1 := zAdC C) (M1 := zAdM M) ?_ zAdC_f zAdM_f
  unfold sX5_readClause_25 sX8_clause_49
  have e0 : zup C 0 2 (C 0 2 + 1) = zAdC C := rfl
  rw [e0]
  generalize zAdC C = C1 at h'
  generalize zAdM M = M1 at h'
  have n1 := c_next N h'
  unfold zl zc2
  dsimp only
  rw [n1]
  dsimp only
  rw [zpt_zpk]
  rcases p_sk N h' (lo := 97) (hi := 100) (by omega) (by omega) with ⟨s1, ⟨q1, s2, s3⟩, s4, s5, s6⟩ | ⟨s1, ⟨q1, s2, s3⟩, s4, s5⟩
  · obtain ⟨s11, s12, s13⟩ := s1
    rw [s2, s4]
    dsimp only
    rw [s3, if_pos s11]
    refine zOut.pre (C1 := zAdC C1) (M1 := zAdM M1) ?_ zAdC_f zAdM_f
    obtain ⟨v, hv⟩ : ∃ v, v = C1 1 (C1 0 2).toNat := ⟨_, rfl⟩
    rw [← hv] at s12 s13 ⊢
    generalize zAdC C1 = C2 at s6
    generalize zAdM M1 = M2 at s6
    have n2 := c_next N s6
    unfold zg zi
    rw [if_pos (by decide), if_neg (by decide), n2]
    dsimp only
    rw [zpt_zpk]
    rcases p_sk N s6 (lo := 48) (hi := 57) (by omega) (by omega) with ⟨t1, ⟨q2, t2, t3⟩, t4, t5, t6⟩ | ⟨t1, ⟨q2, t2, t3⟩, t4, t5⟩
    · obtain ⟨t11, t12, t13⟩ := t1
      rw [t2, t4]
      dsimp only
      rw [t3, if_pos t11, if_pos (by decide), if_neg (by decide)]
      refine zOut.pre (C1 := zAdC C2) (M1 := zAdM M2) ?_ zAdC_f zAdM_f
      obtain ⟨w, hw⟩ : ∃ w, w = C2 1 (C2 0 2).toNat := ⟨_, rfl⟩
      rw [← hw] at t12 t13 ⊢
      generalize zAdC C2 = C3 at t6
      generalize zAdM M2 = M3 at t6
      have n3 := c_next N t6
      rw [n3]
      dsimp only
      rw [zpt_zpk]
      rcases p_sk N t6 (lo := 48) (hi := 57) (by omega) (by omega) with ⟨u1, ⟨q3, u2, u3⟩, u4, u5, u6⟩ | ⟨u1, ⟨q3, u2, u3⟩, u4, u5⟩
      · obtain ⟨u11, u12, u13⟩ := u1
        rw [u2, u5]
        dsimp only
        rw [u3, if_pos u11, if_pos (by decide), if_neg (by decide), if_pos (by decide), if_neg (by decide), u4]
        dsimp only
        refine zOut.pre (C1 := zAdC C3) (M1 := zAdM M3) ?_ zAdC_f zAdM_f
        rw [show (10 : Int) * (w - 48) + C3 1 (C3 0 2).toNat - 48 = (w - 48) * 10 + (C3 1 (C3 0 2).toNat - 48) by omega]
        exact p_109 N u6 ha hx hk (by omega) (by omega)
      · rw [u2, u5]
        dsimp only
        rw [u3, if_pos (by decide), if_pos rfl, if_pos (by decide), if_pos rfl]
        exact p_109 N t6 ha hx hk (by omega) (by omega)
    · have hf := zPs_f s6
      rw [t2, t4]
      dsimp only
      rw [t3, if_pos (by decide), if_pos rfl, f_sees N hf]
      dsimp only
      rw [if_pos (by decide), if_pos rfl]
      obtain ⟨M', m1, m2, m3⟩ := f_108 N hf hx (k := k) (x3 := v - 97) (y0 := 48 - 48) zk
      rw [m1]
      rw [zup_eq] at hf m3
      exact Or.inr ⟨_, _, rfl, rfl, m3, hf, zFC.rf, (zFM.at (by omega)).tr m2⟩
  · have hf := zPs_f h'
    rw [s2, s4]
    dsimp only
    rw [s3]
    unfold zg zi
    rw [if_pos (by decide), if_pos rfl, f_must N hf]
    dsimp only
    rw [f_sees N hf]
    dsimp only
    rw [if_pos (by decide), if_pos rfl]
    obtain ⟨M', m1, m2, m3⟩ := f_108 N hf hx (k := k) (x3 := 97 - 97) (y0 := 48 - 48) zk
    rw [m1]
    rw [zup_eq] at hf m3
    exact Or.inr ⟨_, _, rfl, rfl, m3, hf, zFC.rf, (zFM.at (by omega)).tr m2⟩
theorem p_clause (N : Nat) {C M : zM} (h : zPs C M) {a x : Nat} (ha : a < 20) (hx : x < 120) : zOut a x C M (fX5_readClause N (a : Int) C) (fX8_clause N (x : Int) M) := by
  have n1 := c_next N h
  have e22 : ∀ k : Int, zSee C k k → zPs (zAdC C) (zAdM M) → (k = 103 ∨ k = 112 ∨ k = 120) → sX8_clause_22 N (x : Int) M = sX8_clause_49 N (x : Int) k (zAdM M) := by
    intro k hs hp hk
    obtain ⟨q1, q2, q3⟩ := zPs_see h hs
    obtain ⟨h11, h12, h13⟩ := hs
    unfold sX8_clause_22 zl zg
    dsimp only
    rw [if_pos ⟨q2, q3⟩]
    have : zup M 0 17 (M 0 17 + 1) 5 (M 0 17).toNat = k := by
      rw [zup_other (by decide), ← q1]
      omega
    rw [this]
    rfl
  have eC : ∀ k : Int, zSee C k k → (k = 103 ∨ k = 112 ∨ k = 120) → fX5_readClause N (a : Int) C = sX5_readClause_25 N (a : Int) k C := by
    intro k hs hk
    obtain ⟨h11, h12, h13⟩ := hs
    have hv : C 1 (C 0 2).toNat = k := by omega
    unfold fX5_readClause zc2 zg zi zl
    rw [n1]
    dsimp only
    rw [zpt_zpk, if_pos h11, hv, if_pos (show zR k by constructor <;> omega)]
    rcases hk with rfl | rfl | rfl
    · rw [if_pos rfl]
    · rw [if_neg (by decide), if_pos rfl]
    · rw [if_neg (by decide), if_neg (by decide), if_pos rfl]
  unfold fX8_clause zc2 zg zi
  rcases p_sk N h (lo := 112) (hi := 112) (by omega) (by omega) with ⟨s1, -, -, s5, s6⟩ | ⟨s1, -, -, s5⟩
  · rw [s5]
    dsimp only
    rw [if_pos (by decide), if_neg (by decide), eC 112 s1 (by omega), e22 112 s1 s6 (by omega)]
    exact p_25 N h s6 ha hx (by omega)
  · rw [s5]
    dsimp only
    rw [if_pos (by decide), if_pos rfl]
    rcases p_sk N h (lo := 120) (hi := 120) (by omega) (by omega) with ⟨t1, -, -, t5, t6⟩ | ⟨t1, -, -, t5⟩
    · rw [t5]
      dsimp only
      rw [if_pos (by decide), if_neg (by decide), eC 120 t1 (by omega), e22 120 t1 t6 (by omega)]
      exact p_25 N h t6 ha hx (by omega)
    · rw [t5]
      dsimp only
      rw [if_pos (by decide), if_pos rfl]
      rcases p_sk N h (lo := 103) (hi := 103) (by omega) (by omega) with ⟨u1, -, u4, -, u6⟩ | ⟨u1, -, u4, -⟩
      · rw [u4]
        dsimp only
        rw [eC 103 u1 (by omega)]
        have hv : C 1 (C 0 2).toNat = 103 := by
          obtain ⟨-, a1, a2⟩ := u1
          omega
        rw [hv]
        exact p_25 N h u6 ha hx (by omega)
      · have hf := zPs_f h
        rw [u4]
        dsimp only
        obtain ⟨M', m1, m2, m3⟩ := f_49 N hf hx (k := 103) (by decide)
        rw [m1]
        rw [zup_eq] at hf m3
        have eN : fX5_readClause N (a : Int) C = some (0, C) := by
          unfold fX5_readClause zc2 zg zi zl
          rw [n1]
          dsimp only
          rw [zpt_zpk]
          by_cases q : C 0 2 < C 0 1
          · obtain ⟨-, -, -, ⟨g4, -⟩, -, g7⟩ := h
            obtain ⟨r1, r2, r3⟩ := g7 (C 0 2).toNat (by omega)
            have d1 : ¬ C 1 (C 0 2).toNat = 103 := fun p => u1 ⟨q, by omega, by omega⟩
            have d2 : ¬ C 1 (C 0 2).toNat = 112 := fun p => s1 ⟨q, by omega, by omega⟩
            have d3 : ¬ C 1 (C 0 2).toNat = 120 := fun p => t1 ⟨q, by omega, by omega⟩
            rw [if_pos q, if_pos (show zR (C 1 (C 0 2).toNat) by constructor <;> omega), if_neg d1, if_neg d2, if_neg d3]
          · rw [if_neg q, if_pos (by decide), if_neg (by decide), if_neg (by decide), if_neg (by decide)]
        rw [eN]
        exact Or.inr ⟨_, _, rfl, rfl, m3, hf, zFC.rf, (zFM.at (by omega)).tr m2⟩
/-- what reading a trace leaves, on both sides -/
def zLC (C C' : zM) : Prop := (∀ r, r ≠ 0 → r ≠ 2 → r ≠ 3 → r ≠ 4 → r ≠ 5 → C' r = C r) ∧ (∀ j, j ≠ 2 → C' 0 j = C 0 j) ∧ ∀ j, j ≠ 3 → C' 2 j = C 2 j
def zLM (t : Nat) (M M' : zM) : Prop := (∀ r, r ≠ 0 → r ≠ 6 → r ≠ 7 → r ≠ 8 → M' r = M r) ∧ (∀ j, j ≠ 17 → j ≠ 18 → M' 0 j = M 0 j) ∧ ∀ i, i < t * 20 → M' 6 i = M 6 i ∧ M' 7 i = M 7 i ∧ M' 8 i = M 8 i
theorem zLC.tr {C C1 C2 : zM} (h : zLC C C1) (g : zLC C1 C2) : zLC C C2 := ⟨fun r p q s t u => (g.1 r p q s t u).trans (h.1 r p q s t u), fun j p => (g.2.1 j p).trans (h.2.1 j p), fun j p => (g.2.2 j p).trans (h.2.2 j p)⟩
theorem zLM.tr {t : Nat} {C C1 C2 : zM} (h : zLM t C C1) (g : zLM t C1 C2) : zLM t C C2 := ⟨fun r p q s u => (g.1 r p q s u).trans (h.1 r p q s u), fun j p q => (g.2.1 j p q).trans (h.2.1 j p q), fun i p => ⟨(g.2.2 i p).1.trans (h.2.2 i p).1, (g.2.2 i p).2.1.trans (h.2.2 i p).2.1, (g.2.2 i p).2.2.trans (h.2.2 i p).2.2⟩⟩
theorem zFC.lc {a : Nat} {C C' : zM} (h : zFC a C C') : zLC C C' := ⟨fun r p _ s t u => h.1 r p s t u, h.2.1, fun j _ => by rw [h.1 2 (by decide) (by decide) (by decide) (by decide)]⟩
theorem zFM.lm {t i : Nat} {M M' : zM} (h : zFM (t * 20 + i) M M') : zLM t M M' := ⟨h.1, h.2.1, fun j hj => h.2.2 j (by omega)⟩
theorem p_loop (N : Nat) {t : Nat} (ht : t < 6) : ∀ (m n n' i : Nat) (C M : zM), i + m = 19 → m < n → m + 1 < n' → zPs C M → M 0 12 = (t : Int) → (∀ j, j < i → zCl j (t * 20 + j) C M) →
    ∃ (C' M' : zM) (v : Int) (s : Nat), fX5_readInto_7 N n (i : Int) C = some (v, C') ∧ (zc (fX8_clause N ((t : Int) * 20 + (i : Int)) M) fun M21 => fX8_trace_38 N n' ((i : Int) + 1) M21) = sX8_trace_101 N (s : Int) M' ∧ zLC C C' ∧ zLM t M M' ∧
      ((v = -5 ∧ M' 0 18 = -1 ∧ 1 ≤ s ∧ s ≤ 20 ∧ C' 2 3 = (s : Int) ∧ ∀ j, j < s → zCl j (t * 20 + j) C' M') ∨ (0 ≤ v ∧ v ≤ 100 ∧ M' 0 18 = v)) := by
  intro m
  induction m with
  | zero =>
    intro n n' i C M hi hn hn' hp h12 hcl
    obtain ⟨n, rfl⟩ : ∃ x, n = x + 1 := ⟨n - 1, by omega⟩
    obtain ⟨n', rfl⟩ : ∃ x, n' = x + 2 := ⟨n' - 2, by omega⟩
    have hi19 : i = 19 := by omega
    subst hi19
    have hd1 : fX5_readInto_7 N (n + 1) ((19 : Nat) : Int) C = sX5_readInto_7 N (fun x2 M0 => fX5_readInto_7 N n x2 M0) ((19 : Nat) : Int) C := rfl
    have hd2 : ∀ (y : Int) M1, fX8_trace_38 N (n' + 2) y M1 = sX8_trace_38 N (fun x1 M0 => fX8_trace_38 N (n' + 1) x1 M0) y M1 := fun _ _ => rfl
    have hd3 : ∀ (y : Int) M1, fX8_trace_38 N (n' + 1) y M1 = sX8_trace_38 N (fun x1 M0 => fX8_trace_38 N n' x1 M0) y M1 := fun _ _ => rfl
    rw [hd1]
    have ex : (t : Int) * 20 + ((19 : Nat) : Int) = ((t * 20 + 19 : Nat) : Int) := by omega
    rw [ex]
    rcases p_clause N hp (a := 19) (x := t * 20 + 19) (by omega) (by omega) with ⟨C1, M1, a1, a2, a3, a4, a5, a6⟩ | ⟨C1, M1, a1, a2, a3, ⟨a4, a4'⟩, a5, a6⟩
    · obtain ⟨b1, b2, b3, ⟨b4, b5⟩, b6, b7⟩ := a3
      have size : zup C1 2 3 (((19 : Nat) : Int) + 1) 2 3 = ((20 : Nat) : Int) := by rw [zup_eq]; rfl
      have r0 : zup C1 2 3 (((19 : Nat) : Int) + 1) 0 = C1 0 := zup_other (by decide)
      by_cases q : C1 0 2 < C1 0 1
      · refine ⟨zup C1 2 3 (((19 : Nat) : Int) + 1), zup M1 0 18 (M1 0 17), C1 0 2, 20, ?_, ?_, a4.lc.tr ⟨fun r _ p _ _ _ => zup_other p, fun j _ => by rw [zup_other (by decide)], fun j p => by rw [zup_self, if_neg p]⟩, a5.lm.tr (zFM.at (x := t * 20 + 19) (by omega)).lm, Or.inr ⟨b4, by omega, by rw [zup_eq, b2]⟩⟩
        · unfold sX5_readInto_7 sX5_readInto_65 zg zi zl zc2
          rw [if_pos (by decide), if_neg (by decide), a1]
          dsimp only
          rw [if_pos (by decide), if_neg (by decide), r0, if_pos (show zR (C1 0 2) by constructor <;> omega), if_pos (show zR (C1 0 1) by constructor <;> omega), if_pos q, if_pos (show ((19 : Nat) : Int) = 19 from rfl)]
        · unfold zc
          rw [a2]
          dsimp only
          rw [hd2]
          unfold sX8_trace_38 zg zi zl
          rw [b3, if_pos (by decide), if_neg (by decide), if_pos (show zR (M1 0 17) by constructor <;> omega), if_pos (show zR (M1 0 7) by constructor <;> omega), if_neg (by omega), if_pos (by decide), if_pos (by decide)]
          dsimp only
          rw [hd3]
          unfold sX8_trace_38 zg zi
          rw [zup_eq, if_pos (show zR (M1 0 17) by constructor <;> omega), if_pos (by omega)]
          rfl
      · refine ⟨zup C1 2 3 (((19 : Nat) : Int) + 1), M1, -5, 20, ?_, ?_, a4.lc.tr ⟨fun r _ p _ _ _ => zup_other p, fun j _ => by rw [zup_other (by decide)], fun j p => by rw [zup_self, if_neg p]⟩, a5.lm, Or.inl ⟨rfl, b3, by omega, by omega, size, fun j hj => ?_⟩⟩
        · unfold sX5_readInto_7 sX5_readInto_65 zg zi zl zc2
          rw [if_pos (by decide), if_neg (by decide), a1]
          dsimp only
          rw [if_pos (by decide), if_neg (by decide), r0, if_pos (show zR (C1 0 2) by constructor <;> omega), if_pos (show zR (C1 0 1) by constructor <;> omega), if_neg q]
        · unfold zc
          rw [a2]
          dsimp only
          rw [hd2]
          unfold sX8_trace_38 zg zi zl
          rw [b3, if_pos (by decide), if_neg (by decide), if_pos (show zR (M1 0 17) by constructor <;> omega), if_pos (show zR (M1 0 7) by constructor <;> omega), if_pos (by omega)]
          rfl
        · unfold zCl
          rw [zup_other (show (3 : Nat) ≠ 2 by decide), zup_other (show (4 : Nat) ≠ 2 by decide), zup_other (show (5 : Nat) ≠ 2 by decide)]
          by_cases hj19 : j = 19
          · subst hj19; exact a6
          · obtain ⟨g1, g2, g3⟩ := a4.2.2 j hj19
            obtain ⟨f1, f2, f3⟩ := a5.2.2 (t * 20 + j) (by omega)
            rw [g1, g2, g3, f1, f2, f3]
            exact hcl j (by omega)
    · refine ⟨C1, M1, C1 0 2, 20, ?_, ?_, a5.lc, a6.lm, Or.inr ⟨a4, a4', a3⟩⟩
      · unfold sX5_readInto_7 zg zi zl zc2
        rw [if_pos (by decide), if_neg (by decide), a1]
        dsimp only
        rw [if_pos (by decide), if_pos rfl]
      · unfold zc
        rw [a2]
        dsimp only
        rw [hd2]
        unfold sX8_trace_38 zg zi
        rw [a3, if_pos (show zR (C1 0 2) by constructor <;> omega), if_pos a4]
        rfl
  | succ m ih =>
    intro n n' i C M hi hn hn' hp h12 hcl
    obtain ⟨n, rfl⟩ : ∃ x, n = x + 1 := ⟨n - 1, by omega⟩
    obtain ⟨n', rfl⟩ : ∃ x, n' = x + 2 := ⟨n' - 2, by omega⟩
    have hd1 : fX5_readInto_7 N (n + 1) (i : Int) C = sX5_readInto_7 N (fun x2 M0 => fX5_readInto_7 N n x2 M0) (i : Int) C := rfl
    have hd2 : ∀ (y : Int) M1, fX8_trace_38 N (n' + 2) y M1 = sX8_trace_38 N (fun x1 M0 => fX8_trace_38 N (n' + 1) x1 M0) y M1 := fun _ _ => rfl
    have hd3 : ∀ (y : Int) M1, fX8_trace_38 N (n' + 1) y M1 = sX8_trace_38 N (fun x1 M0 => fX8_trace_38 N n' x1 M0) y M1 := fun _ _ => rfl
    rw [hd1]
    have ex : (t : Int) * 20 + (i : Int) = ((t * 20 + i : Nat) : Int) := by omega
    have ex2 : (t : Int) * 20 + ((i : Int) + 1) = ((t * 20 + (i + 1) : Nat) : Int) := by omega
    have ii : (i : Int) + 1 = ((i + 1 : Nat) : Int) := by omega
    rw [ex]
    have zi0 : zR (i : Int) := by constructor <;> omega
    have zi1 : zR ((i : Int) + 1) := by constructor <;> omega
    rcases p_clause N hp (a := i) (x := t * 20 + i) (by omega) (by omega) with ⟨C1, M1, a1, a2, a3, a4, a5, a6⟩ | ⟨C1, M1, a1, a2, a3, ⟨a4, a4'⟩, a5, a6⟩
    · have p1 := a3
      obtain ⟨b1, b2, b3, ⟨b4, b5⟩, b6, b7⟩ := a3
      obtain ⟨C2, hC2⟩ : ∃ C2, C2 = zup C1 2 3 ((i : Int) + 1) := ⟨_, rfl⟩
      have r0 : C2 0 = C1 0 := by rw [hC2]; exact zup_other (by decide)
      have lc2 : zLC C1 C2 := by rw [hC2]; exact ⟨fun r _ p _ _ _ => zup_other p, fun j _ => by rw [zup_other (by decide)], fun j p => by rw [zup_self, if_neg p]⟩
      have p2 : zPs C2 M1 := zPs_rows p1 r0 (by rw [hC2]; exact zup_other (by decide)) rfl rfl
      have hcl2 : ∀ j, j < i + 1 → zCl j (t * 20 + j) C2 M1 := fun j hj => by
        rw [hC2]
        unfold zCl
        rw [zup_other (show (3 : Nat) ≠ 2 by decide), zup_other (show (4 : Nat) ≠ 2 by decide), zup_other (show (5 : Nat) ≠ 2 by decide)]
        by_cases hji : j = i
        · subst hji; exact a6
        · obtain ⟨g1, g2, g3⟩ := a4.2.2 j hji
          obtain ⟨f1, f2, f3⟩ := a5.2.2 (t * 20 + j) (by omega)
          rw [g1, g2, g3, f1, f2, f3]
          exact hcl j (by omega)
      have m12 : M1 0 12 = (t : Int) := by rw [a5.2.1 12 (by decide) (by decide)]; exact h12
      by_cases q : C1 0 2 < C1 0 1
      · have eC : ∀ (b : Int) (C3 q3 : zM), fX5_skip N 59 59 (zpk is_0n2 C2) = some (b, q3) → zpt is_0n2 C2 q3 = C3 → (b = 0 ∨ b = 1) → sX5_readInto_7 N (fun x2 M0 => fX5_readInto_7 N n x2 M0) (i : Int) C = if b = 0 then some (C3 0 2, C3) else fX5_readInto_7 N n ((i : Int) + 1) C3 := by
          intro b C3 q3 h1 h2 h3
          unfold sX5_readInto_7 sX5_readInto_65 zg zi zl zc2
          rw [if_pos zi0, if_neg (by omega), a1]
          dsimp only
          rw [if_pos (by decide), if_neg (by decide), ← hC2, r0, if_pos (show zR (C1 0 2) by constructor <;> omega), if_pos (show zR (C1 0 1) by constructor <;> omega), if_pos q, if_neg (by omega), h1]
          dsimp only
          rw [h2, if_pos (show zR b by constructor <;> omega)]
        rcases p_sk N p2 (lo := 59) (hi := 59) (by omega) (by omega) with ⟨s1, ⟨q1, s2, s3⟩, s4, s5, s6⟩ | ⟨s1, ⟨q1, s2, s3⟩, s4, s5⟩
        · obtain ⟨C', M', v, s, w1, w2, w3, w4, w5⟩ := ih n (n' + 1) (i + 1) (zAdC C2) (zAdM M1) (by omega) (by omega) (by omega) s6 (by
            unfold zAdM
            rw [zup_self, if_neg (by decide)]; exact m12) (fun j hj => by
            unfold zAdC zAdM zCl
            rw [zup_other (show (3 : Nat) ≠ 0 by decide), zup_other (show (4 : Nat) ≠ 0 by decide), zup_other (show (5 : Nat) ≠ 0 by decide), zup_other (show (6 : Nat) ≠ 0 by decide), zup_other (show (7 : Nat) ≠ 0 by decide), zup_other (show (8 : Nat) ≠ 0 by decide)]
            exact hcl2 j hj)
          refine ⟨C', M', v, s, ?_, ?_, ((a4.lc.tr lc2).tr (zAdC_f (a := 0)).lc).tr w3, (a5.lm.tr (zAdM_f (x := t * 20 + 0)).lm).tr w4, w5⟩
          · rw [eC 1 _ q1 s2 s3 (Or.inr rfl), if_neg (by decide), ii]
            exact w1
          · rw [← w2]
            unfold zc
            rw [a2]
            dsimp only
            rw [hd2]
            unfold sX8_trace_38 zg zi zl zc2
            have z12 : zAdM M1 0 12 = (t : Int) := by
              unfold zAdM
              rw [zup_self, if_neg (by decide)]; exact m12
            rw [b3, if_pos (by decide), if_neg (by decide), if_pos (show zR (M1 0 17) by constructor <;> omega), if_pos (show zR (M1 0 7) by constructor <;> omega), if_neg (by omega), if_pos zi1, if_neg (by omega), s4]
            dsimp only
            rw [z12, ii]
            rfl
        · have hf := zPs_f p2
          obtain ⟨M3, m1, m2, m3⟩ := f_clause N hf (x := t * 20 + (i + 1)) (by omega)
          rw [zup_eq] at hf m3
          refine ⟨C2, M3, C2 0 2, i + 2, ?_, ?_, a4.lc.tr lc2, (a5.lm.tr (zFM.at (x := t * 20 + 0) (by omega)).lm).tr m2.lm, Or.inr ⟨hf.1, hf.2, m3⟩⟩
          · rw [eC 0 _ q1 s2 s3 (Or.inl rfl), if_pos rfl]
          · unfold zc
            rw [a2]
            dsimp only
            rw [hd2]
            unfold sX8_trace_38 zg zi zl zc2 zc
            have z12 : zup M1 0 18 (C2 0 2) 0 12 = (t : Int) := by
              rw [zup_self, if_neg (by decide)]; exact m12
            rw [b3, if_pos (by decide), if_neg (by decide), if_pos (show zR (M1 0 17) by constructor <;> omega), if_pos (show zR (M1 0 7) by constructor <;> omega), if_neg (by omega), if_pos zi1, if_neg (by omega), s4]
            dsimp only
            rw [z12, ex2, m1]
            dsimp only
            rw [hd3]
            unfold sX8_trace_38 zg zi
            rw [m3, if_pos (show zR (C2 0 2) by constructor <;> omega), if_pos hf.1, show (i : Int) + 1 + 1 = ((i + 2 : Nat) : Int) by omega]
      · refine ⟨C2, M1, -5, i + 1, ?_, ?_, a4.lc.tr lc2, a5.lm, Or.inl ⟨rfl, b3, by omega, by omega, by rw [hC2, zup_eq]; omega, hcl2⟩⟩
        · unfold sX5_readInto_7 sX5_readInto_65 zg zi zl zc2
          rw [if_pos zi0, if_neg (by omega), a1]
          dsimp only
          rw [if_pos (by decide), if_neg (by decide), ← hC2, r0, if_pos (show zR (C1 0 2) by constructor <;> omega), if_pos (show zR (C1 0 1) by constructor <;> omega), if_neg q]
        · unfold zc
          rw [a2]
          dsimp only
          rw [hd2]
          unfold sX8_trace_38 zg zi zl
          rw [b3, if_pos (by decide), if_neg (by decide), if_pos (show zR (M1 0 17) by constructor <;> omega), if_pos (show zR (M1 0 7) by constructor <;> omega), if_pos (by omega), ii]
    · refine ⟨C1, M1, C1 0 2, i + 1, ?_, ?_, a5.lc, a6.lm, Or.inr ⟨a4, a4', a3⟩⟩
      · unfold sX5_readInto_7 zg zi zl zc2
        rw [if_pos zi0, if_neg (by omega), a1]
        dsimp only
        rw [if_pos (by decide), if_pos rfl]
      · unfold zc
        rw [a2]
        dsimp only
        rw [hd2]
        unfold sX8_trace_38 zg zi
        rw [a3, if_pos (show zR (C1 0 2) by constructor <;> omega), if_pos a4, ii]
