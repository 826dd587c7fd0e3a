/-! one clause of a trace, read on both sides -/
def zFC (a : Nat) (C C' : zM) : Prop := (∀ r, r ≠ 0 → r ≠ 3 → r ≠ 4 → r ≠ 5 → C' r = C r) ∧ (∀ j, j ≠ 2 → C' 0 j = C 0 j) ∧ ∀ i, i ≠ a → C' 3 i = C 3 i ∧ C' 4 i = C 4 i ∧ C' 5 i = C 5 i
def zFM (x : Nat) (M M' : zM) : Prop := (∀ r, r ≠ 0 → r ≠ 6 → r ≠ 7 → r ≠ 8 → M' r = M r) ∧ (∀ j, j ≠ 17 → j ≠ 18 → M' 0 j = M 0 j) ∧ ∀ i, i ≠ x → M' 6 i = M 6 i ∧ M' 7 i = M 7 i ∧ M' 8 i = M 8 i
theorem zFC.rf {a : Nat} {C : zM} : zFC a C C := ⟨fun _ _ _ _ _ => rfl, fun _ _ => rfl, fun _ _ => ⟨rfl, rfl, rfl⟩⟩
theorem zFM.rf {a : Nat} {C : zM} : zFM a C C := ⟨fun _ _ _ _ _ => rfl, fun _ _ _ => rfl, fun _ _ => ⟨rfl, rfl, rfl⟩⟩
theorem zFC.tr {a : Nat} {C C1 C2 : zM} (h : zFC a C C1) (g : zFC a C1 C2) : zFC a C C2 := ⟨fun r p q s t => (g.1 r p q s t).trans (h.1 r p q s t), fun j p => (g.2.1 j p).trans (h.2.1 j p), fun i p => ⟨(g.2.2 i p).1.trans (h.2.2 i p).1, (g.2.2 i p).2.1.trans (h.2.2 i p).2.1, (g.2.2 i p).2.2.trans (h.2.2 i p).2.2⟩⟩
theorem zFM.tr {a : Nat} {C C1 C2 : zM} (h : zFM a C C1) (g : zFM a C1 C2) : zFM a C C2 := ⟨fun r p q s t => (g.1 r p q s t).trans (h.1 r p q s t), fun j p q => (g.2.1 j p q).trans (h.2.1 j p q), fun i p => ⟨(g.2.2 i p).1.trans (h.2.2 i p).1, (g.2.2 i p).2.1.trans (h.2.2 i p).2.1, (g.2.2 i p).2.2.trans (h.2.2 i p).2.2⟩⟩
theorem zFC.at {a : Nat} {C : zM} {v : Int} : zFC a C (zup C 0 2 v) := ⟨fun r p _ _ _ => zup_other p, fun j p => by rw [zup_self, if_neg p], fun i _ => by rw [zup_other (by decide), zup_other (by decide), zup_other (by decide)]; exact ⟨rfl, rfl, rfl⟩⟩
theorem zFC.up {a r : Nat} {C : zM} {v : Int} (hr : r = 3 ∨ r = 4 ∨ r = 5) : zFC a C (zup C r a v) := by
  refine ⟨fun r' p q s t => zup_other (by omega), fun j p => by rw [zup_other (by omega)], fun i p => ?_⟩
  rw [zup_at, zup_at, zup_at, if_neg (by omega), if_neg (by omega), if_neg (by omega)]
  exact ⟨rfl, rfl, rfl⟩
theorem zFM.at {x j : Nat} {C : zM} {v : Int} (hj : j = 17 ∨ j = 18) : zFM x C (zup C 0 j v) := ⟨fun r p _ _ _ => zup_other p, fun i p q => by rw [zup_self, if_neg (by omega)], fun i _ => by rw [zup_other (by decide), zup_other (by decide), zup_other (by decide)]; exact ⟨rfl, rfl, rfl⟩⟩
theorem zFM.up {x r : Nat} {C : zM} {v : Int} (hr : r = 6 ∨ r = 7 ∨ r = 8) : zFM x C (zup C r x v) := by
  refine ⟨fun r' p q s t => zup_other (by omega), fun j p q => by rw [zup_other (by omega)], fun i p => ?_⟩
  rw [zup_at, zup_at, zup_at, if_neg (by omega), if_neg (by omega), if_neg (by omega)]
  exact ⟨rfl, rfl, rfl⟩
/-- both read at the same place, and nothing was wrong so far -/
def zPs (C M : zM) : Prop := C 0 1 = M 0 7 ∧ C 0 2 = M 0 17 ∧ M 0 18 = -1 ∧ (0 ≤ C 0 2 ∧ C 0 2 ≤ C 0 1) ∧ (C 0 1 ≤ 100) ∧ ∀ j : Nat, (j : Int) < C 0 1 → C 1 j = M 5 j ∧ 0 ≤ C 1 j ∧ C 1 j ≤ 127
def zSee (C : zM) (lo hi : Int) : Prop := C 0 2 < C 0 1 ∧ lo ≤ C 1 (C 0 2).toNat ∧ C 1 (C 0 2).toNat ≤ hi
def zAdC (C : zM) : zM := zup C 0 2 (C 0 2 + 1)
def zAdM (M : zM) : zM := zup M 0 17 (M 0 17 + 1)
theorem c_next (N : Nat) {C M : zM} (h : zPs C M) : fX5_next N (zpk is_0n2 C) = some ((if C 0 2 < C 0 1 then C 1 (C 0 2).toNat else -5), zpk is_0n2 C) := by
  obtain ⟨h1, h2, h3, ⟨h4, h5⟩, h6, h7⟩ := h
  have e0 : zpk is_0n2 C 0 = C 0 := rfl
  have e1 : zpk is_0n2 C 1 = C 1 := rfl
  unfold fX5_next zg zi
  rw [e0, e1, if_pos (show zR (C 0 2) by constructor <;> omega), if_pos (show zR (C 0 1) by constructor <;> omega)]
  by_cases q : C 0 1 ≤ C 0 2
  · rw [if_pos q, if_neg (by omega)]
  · rw [if_neg q, if_pos (by omega), if_pos (by omega)]
theorem zpt_ad (C : zM) (v : Int) : zpt is_0n2 C (zup (zpk is_0n2 C) 0 2 v) = zup C 0 2 v := by
  funext r b
  have e0 : zpt is_0n2 C (zup (zpk is_0n2 C) 0 2 v) 0 = zup (zpk is_0n2 C) 0 2 v 0 := zpt_at (by decide) (show is_0n2[0]? = some 0 by rfl)
  have e1 : zpt is_0n2 C (zup (zpk is_0n2 C) 0 2 v) 1 = zup (zpk is_0n2 C) 0 2 v 1 := zpt_at (by decide) (show is_0n2[1]? = some 1 by rfl)
  by_cases r0 : r = 0
  · subst r0; rw [e0]; rfl
  · by_cases r1 : r = 1
    · subst r1; rw [e1]; rfl
    · rw [zpt_off (fun q => by
        rcases List.mem_cons.mp q with q | q
        · exact r0 q
        · rcases List.mem_cons.mp q with q | q
          · exact r1 q
          · cases q), zup_other r0]
/-- a sign is asked for: both take it, or both don't -/
theorem p_sk (N : Nat) {C M : zM} (h : zPs C M) {lo hi : Int} (hlo : 0 ≤ lo ∧ lo ≤ 127) (hhi : 0 ≤ hi ∧ hi ≤ 127) :
    (zSee C lo hi ∧ (∃ q, fX5_skip N lo hi (zpk is_0n2 C) = some (1, q) ∧ zpt is_0n2 C q = zAdC C) ∧ fX8_must N lo hi M = some (C 1 (C 0 2).toNat, zAdM M) ∧ fX8_sees N lo hi M = some (1, M) ∧ zPs (zAdC C) (zAdM M)) ∨
    (¬ zSee C lo hi ∧ (∃ q, fX5_skip N lo hi (zpk is_0n2 C) = some (0, q) ∧ zpt is_0n2 C q = C) ∧ fX8_must N lo hi M = some (lo, zup M 0 18 (C 0 2)) ∧ fX8_sees N lo hi M = some (0, M)) := by
  have hn := c_next N h
  obtain ⟨h1, h2, h3, ⟨h4, h5⟩, h6, h7⟩ := h
  have zlo : zR lo := by constructor <;> omega
  have zhi : zR hi := by constructor <;> omega
  have z2 : zR (M 0 17) := by constructor <;> omega
  have z7 : zR (M 0 7) := by constructor <;> omega
  have z18 : zR (M 0 18) := by rw [h3]; decide
  by_cases hs : zSee C lo hi
  · obtain ⟨s1, s2, s3⟩ := hs
    obtain ⟨g1, g2, g3⟩ := h7 (C 0 2).toNat (by omega)
    have hsee : fX8_sees N lo hi M = some (1, M) := by
      unfold fX8_sees zg zi zc
      rw [if_pos z18, if_neg (by omega), if_pos z2, if_pos z7, if_neg (by omega), if_pos (show 0 ≤ M 0 17 ∧ M 0 17 < 100 by omega), ← h2, ← g1, e_in N (by constructor <;> omega) zlo zhi]
      dsimp only
      rw [if_pos (show lo ≤ C 1 (C 0 2).toNat ∧ C 1 (C 0 2).toNat ≤ hi by omega), if_pos (by decide), if_neg (by decide)]
    refine Or.inl ⟨⟨s1, s2, s3⟩, ⟨zup (zpk is_0n2 C) 0 2 (C 0 2 + 1), ?_, zpt_ad C _⟩, ?_, hsee, ?_⟩
    · unfold fX5_skip zc2 zg zi zl
      rw [hn]
      dsimp only
      rw [if_pos s1, if_pos (show zR (C 1 (C 0 2).toNat) by constructor <;> omega), if_pos zlo, if_neg (by omega), if_pos zhi, if_pos s3]
      rfl
    · unfold fX8_must zc2 zg zi zl
      rw [hsee]
      dsimp only
      rw [if_pos (by decide), if_neg (by decide), if_pos (show 0 ≤ M 0 17 ∧ M 0 17 < 100 by omega), zup_other (by decide), ← h2, ← g1, h2]
      rfl
    · unfold zPs zAdC zAdM
      rw [zup_other (show (1 : Nat) ≠ 0 by decide), zup_other (show (5 : Nat) ≠ 0 by decide), zup_self, zup_self, zup_self, zup_self, zup_self, if_neg (by decide), if_pos rfl, if_neg (by decide), if_pos rfl, if_neg (by decide)]
      exact ⟨h1, by omega, h3, by omega, h6, h7⟩
  · have hsee : fX8_sees N lo hi M = some (0, M) := by
      unfold fX8_sees zg zi zc
      rw [if_pos z18, if_neg (by omega), if_pos z2, if_pos z7]
      by_cases q : M 0 7 ≤ M 0 17
      · rw [if_pos q]
      · obtain ⟨g1, g2, g3⟩ := h7 (C 0 2).toNat (by omega)
        rw [if_neg q, if_pos (show 0 ≤ M 0 17 ∧ M 0 17 < 100 by omega), ← h2, ← g1, e_in N (by constructor <;> omega) zlo zhi]
        dsimp only
        rw [if_neg (show ¬ (lo ≤ C 1 (C 0 2).toNat ∧ C 1 (C 0 2).toNat ≤ hi) from fun p => hs ⟨by omega, p.1, p.2⟩), if_pos (by decide), if_pos rfl]
    refine Or.inr ⟨hs, ⟨zpk is_0n2 C, ?_, zpt_zpk _ _⟩, ?_, hsee⟩
    · unfold fX5_skip zc2 zg zi zl
      rw [hn]
      dsimp only
      by_cases q : C 0 2 < C 0 1
      · obtain ⟨g1, g2, g3⟩ := h7 (C 0 2).toNat (by omega)
        rw [if_pos q, if_pos (show zR (C 1 (C 0 2).toNat) by constructor <;> omega), if_pos zlo]
        by_cases q1 : C 1 (C 0 2).toNat < lo
        · rw [if_pos q1]
        · rw [if_neg q1, if_pos zhi, if_neg (fun p => hs ⟨q, by omega, p⟩)]
      · rw [if_neg q, if_pos (by decide), if_pos zlo, if_pos (by omega)]
    · unfold fX8_must sX8_must_28 zc2 zg zi zl
      rw [hsee]
      dsimp only
      rw [if_pos (by decide), if_pos rfl, if_pos z18, if_neg (by omega), h2]
/-! where something was wrong, the reference reads on without effect -/
theorem f_sees (N : Nat) {M : zM} (h : 0 ≤ M 0 18 ∧ M 0 18 ≤ 100) (lo hi : Int) : fX8_sees N lo hi M = some (0, M) := by
  unfold fX8_sees zg zi
  rw [if_pos (show zR (M 0 18) by constructor <;> omega), if_pos h.1]
theorem f_must (N : Nat) {M : zM} (h : 0 ≤ M 0 18 ∧ M 0 18 ≤ 100) (lo hi : Int) : fX8_must N lo hi M = some (lo, M) := by
  unfold fX8_must sX8_must_28 zc2 zg zi zl
  rw [f_sees N h]
  dsimp only
  rw [if_pos (by decide), if_pos rfl, if_pos (show zR (M 0 18) by constructor <;> omega), if_pos h.1, zup_same]
theorem f_108 (N : Nat) {M : zM} (h : 0 ≤ M 0 18 ∧ M 0 18 ≤ 100) {x : Nat} (hx : x < 120) {k x3 y0 : Int} (hk : zR k) : ∃ M', sX8_clause_108 N (x : Int) k x3 y0 M = some M' ∧ zFM x M M' ∧ M' 0 18 = M 0 18 := by
  unfold sX8_clause_108 sX8_clause_142 zc2 zg zi zl
  dsimp only
  rw [if_pos hk, f_must N h]
  dsimp only
  rw [f_must N h]
  dsimp only
  rw [show ((x : Int)).toNat = x by omega]
  by_cases h2 : k = 112
  · rw [if_pos h2, if_pos (show 0 ≤ (x : Int) ∧ (x : Int) < 120 by omega), if_pos (show 0 ≤ (x : Int) ∧ (x : Int) < 120 by omega)]
    exact ⟨_, rfl, ((zFM.up (by omega)).tr (zFM.up (by omega))).tr (zFM.up (by omega)), by rw [zup_other (by decide), zup_other (by decide), zup_other (by decide)]⟩
  · rw [if_neg h2, if_pos (show 0 ≤ (x : Int) ∧ (x : Int) < 120 by omega)]
    exact ⟨_, rfl, (zFM.up (by omega)).tr (zFM.up (by omega)), by rw [zup_other (by decide), zup_other (by decide)]⟩
theorem f_49 (N : Nat) {M : zM} (h : 0 ≤ M 0 18 ∧ M 0 18 ≤ 100) {x : Nat} (hx : x < 120) {k : Int} (hk : zR k) : ∃ M', sX8_clause_49 N (x : Int) k M = some M' ∧ zFM x M M' ∧ M' 0 18 = M 0 18 := by
  unfold sX8_clause_49 zc2 zg zi zl
  dsimp only
  rw [f_must N h]
  dsimp only
  rw [f_must N h]
  dsimp only
  rw [f_sees N h]
  dsimp only
  rw [if_pos (by decide), if_pos rfl]
  exact f_108 N h hx hk
theorem f_clause (N : Nat) {M : zM} (h : 0 ≤ M 0 18 ∧ M 0 18 ≤ 100) {x : Nat} (hx : x < 120) : ∃ M', fX8_clause N (x : Int) M = some M' ∧ zFM x M M' ∧ M' 0 18 = M 0 18 := by
  unfold fX8_clause zc2 zg zi
  rw [f_sees N h]
  dsimp only
  rw [if_pos (by decide), if_pos rfl, f_sees N h]
  dsimp only
  rw [if_pos (by decide), if_pos rfl, f_must N h]
  exact f_49 N h hx (by decide)
/-- what a clause says, on both sides -/
def zCl (a x : Nat) (C M : zM) : Prop := C 3 a = M 6 x ∧ C 4 a = M 7 x ∧ (C 3 a = 103 ∨ C 3 a = 112 ∨ C 3 a = 120) ∧ (0 ≤ C 4 a ∧ C 4 a < 400) ∧ (C 3 a = 112 → C 5 a = M 8 x ∧ 1 ≤ C 5 a ∧ C 5 a ≤ 9)
def zOut (a x : Nat) (C M : zM) (p : Option (Int × zM)) (q : Option zM) : Prop :=
  (∃ C' M', p = some (1, C') ∧ q = some M' ∧ zPs C' M' ∧ zFC a C C' ∧ zFM x M M' ∧ zCl a x C' M') ∨ (∃ C' M', p = some (0, C') ∧ q = some M' ∧ M' 0 18 = C' 0 2 ∧ (0 ≤ C' 0 2 ∧ C' 0 2 ≤ 100) ∧ zFC a C C' ∧ zFM x M M')
theorem zOut.pre {a x : Nat} {C M C1 M1 : zM} {p : Option (Int × zM)} {q : Option zM} (h : zOut a x C1 M1 p q) (hc : zFC a C C1) (hm : zFM x M M1) : zOut a x C M p q := by
  rcases h with ⟨C', M', a1, a2, a3, a4, a5, a6⟩ | ⟨C', M', a1, a2, a3, a4, a5, a6⟩
  · exact Or.inl ⟨C', M', a1, a2, a3, hc.tr a4, hm.tr a5, a6⟩
  · exact Or.inr ⟨C', M', a1, a2, a3, a4, hc.tr a5, hm.tr a6⟩
