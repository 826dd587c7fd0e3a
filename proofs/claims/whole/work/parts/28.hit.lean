/-! a hit, a put, a get, a drop, on both sides -/
theorem s_hit_eq (N : Nat) {S : zM} {k w : Nat} (hk : k < 400) (hw : S 9 k = (w : Int)) (hw12 : w = 1 ∨ w = 2) (h12 : 0 ≤ S 12 k ∧ S 12 k ≤ 99) (hr : 1 ≤ S 1 2 ∧ S 1 2 ≤ 9) {v : Int} (hv : v = if 99 ≤ S 12 k then 99 else S 12 k + 1) {t : Nat} (htt : t = if w = 1 ∧ v < S 1 2 then 1 else 2) :
    fX3_hit N (k : Int) S = fX3_move N (k : Int) (t : Int) (zup S 12 k v) := by
  have hz : zmin (S 12 k + 1) 99 = v := by
    unfold zmin
    rw [hv]
    by_cases h : 99 ≤ S 12 k
    · rw [if_pos h, if_pos (by omega)]
    · rw [if_neg h]
      by_cases h2 : (99 : Int) < S 12 k + 1
      · omega
      · rw [if_neg h2]
  have hv99 : 0 ≤ v ∧ v ≤ 99 := by rw [hv]; split <;> omega
  have z1 : zup S 12 k v 1 2 = S 1 2 := by rw [zup_other (by decide)]
  have fin : ∀ (y : Int) , sX3_hit_71 N y (k : Int) (zup S 12 k v) = fX3_move N (k : Int) y (zup S 12 k v) := by
    intro y
    unfold sX3_hit_71 zc
    cases fX3_move N (k : Int) y (zup S 12 k v) <;> rfl
  unfold fX3_hit zg zi zl
  dsimp only
  rw [show ((k : Int)).toNat = k by omega, hz, zup_eq, z1, hw, if_pos (by omega), if_pos (by constructor <;> omega), if_pos (by constructor <;> omega)]
  rcases hw12 with rfl | rfl
  · rw [if_pos (by decide), if_pos (by constructor <;> omega), if_pos (by constructor <;> omega)]
    by_cases hlt : v < S 1 2
    · rw [if_pos hlt, htt, if_pos ⟨rfl, hlt⟩]
      unfold sX3_hit_58 sX3_hit_59 zg zi zl
      dsimp only
      rw [if_pos (by decide), if_pos rfl]
      exact fin _
    · rw [if_neg hlt, htt, if_neg (fun q => hlt q.2)]
      unfold sX3_hit_59 zg zi zl
      dsimp only
      rw [if_pos (by decide), if_neg (by decide)]
      exact fin _
  · rw [if_neg (by decide), htt, if_neg (fun q => absurd q.1 (by decide))]
    unfold sX3_hit_58 sX3_hit_59 zg zi zl
    dsimp only
    rw [if_pos (by decide), if_pos rfl]
    exact fin _
theorem m_hit_eq (N : Nat) {M : zM} {k w : Nat} (hk : k < 400) (hw : M 1 k = (w : Int)) (hw12 : w = 1 ∨ w = 2) (h12 : 0 ≤ M 1 (1600 + k) ∧ M 1 (1600 + k) ≤ 99) (hr : 1 ≤ M 1 3202 ∧ M 1 3202 ≤ 9) {v : Int} (hv : v = if 99 ≤ M 1 (1600 + k) then 99 else M 1 (1600 + k) + 1) {t : Nat} (htt : t = if w = 1 ∧ v < M 1 3202 then 1 else 2) :
    fX8_hit N (k : Int) M = fX8_goes N (k : Int) (t : Int) (zup M 1 (1600 + k) v) := by
  have hv99 : 0 ≤ v ∧ v ≤ 99 := by rw [hv]; split <;> omega
  have z1 : zup M 1 (1600 + k) v 1 3202 = M 1 3202 := by rw [zup_self, if_neg (by omega)]
  have zk : zup M 1 (1600 + k) v 1 k = (w : Int) := by rw [zup_self, if_neg (by omega), hw]
  have i0 : ((0 : Int) + (k : Int)).toNat = k := by omega
  have i16 : ((1600 : Int) + (k : Int)).toNat = 1600 + k := by omega
  have fin : ∀ (y : Int), sX8_hit_89 N y (k : Int) (zup M 1 (1600 + k) v) = fX8_goes N (k : Int) y (zup M 1 (1600 + k) v) := by
    intro y
    unfold sX8_hit_89 zc
    cases fX8_goes N (k : Int) y (zup M 1 (1600 + k) v) <;> rfl
  have key : sX8_hit_41 N (k : Int) v ((1600 : Int) + (k : Int)) M = fX8_goes N (k : Int) (t : Int) (zup M 1 (1600 + k) v) := by
    unfold sX8_hit_41 sX8_hit_81 zg zi zl
    dsimp only
    have g16 : 0 ≤ (1600 : Int) + (k : Int) ∧ (1600 : Int) + (k : Int) < 3253 := by omega
    have g0 : 0 ≤ (0 : Int) + (k : Int) ∧ (0 : Int) + (k : Int) < 3253 := by omega
    rw [i0, i16, zk, z1, zup_eq, if_pos g16, if_pos g0, if_pos (show zR (w : Int) by constructor <;> omega)]
    rcases hw12 with rfl | rfl
    · rw [if_pos (by decide), if_pos g16, if_pos (show zR v by constructor <;> omega), if_pos (show zR (M 1 3202) by constructor <;> omega)]
      by_cases hlt : v < M 1 3202
      · rw [if_pos hlt, if_pos g0, htt, if_pos ⟨rfl, hlt⟩]
        exact fin _
      · rw [if_neg hlt, htt, if_neg (fun q => hlt q.2)]
        exact fin _
    · rw [if_neg (by decide), if_pos g0, htt, if_neg (fun q => absurd q.1 (by decide))]
      exact fin _
  unfold fX8_hit zg zi
  rw [i16, if_pos (show 0 ≤ (1600 : Int) + (k : Int) ∧ (1600 : Int) + (k : Int) < 3253 by omega), if_pos (show zR (M 1 (1600 + k)) by constructor <;> omega)]
  by_cases h99 : 99 ≤ M 1 (1600 + k)
  · rw [if_pos h99]
    rw [if_pos h99] at hv
    rw [← hv]
    exact key
  · rw [if_neg h99]
    rw [if_neg h99] at hv
    rw [← hv]
    exact key
theorem sim_hit (N : Nat) {e : Bool} {b c : Int} {Q : Nat → List Nat} {S M : zM} (h : zSim e b c Q S M) {k : Nat} (hk : k < 400) (ht : S 9 k = 1 ∨ S 9 k = 2) :
    ∃ Q' S' M', fX3_hit N (k : Int) S = some S' ∧ fX8_hit N (k : Int) M = some M' ∧ zSim e b (c + 1) Q' S' M' ∧ zFrS S S' ∧ zFrM M M' ∧ S' 11 = S 11 := by
  obtain ⟨w, hw, hw12⟩ : ∃ w : Nat, S 9 k = (w : Int) ∧ (w = 1 ∨ w = 2) := by
    rcases ht with q | q
    · exact ⟨1, q, Or.inl rfl⟩
    · exact ⟨2, q, Or.inr rfl⟩
  obtain ⟨q1, q2, q3, q4, q5, q6, q7⟩ := h.ef k hk
  have r12 := (h.rf k hk).2.2.1
  have rr := h.rs.2.2.1
  have e2 : M 1 3202 = S 1 2 := h.es.1.2.2.1
  obtain ⟨v, hv⟩ : ∃ v : Int, v = if 99 ≤ S 12 k then 99 else S 12 k + 1 := ⟨_, rfl⟩
  obtain ⟨t, htt⟩ : ∃ t : Nat, t = if w = 1 ∧ v < S 1 2 then 1 else 2 := ⟨_, rfl⟩
  have hv99 : 0 ≤ v ∧ v ≤ 99 := by rw [hv]; split <;> omega
  have ht2 : t ≤ 4 := by rw [htt]; split <;> omega
  have h1 := zSim_fact h (r := 12) (o := 1600) (k := k) hk v (by omega) (zRf_up h.rf (by omega))
  obtain ⟨S2, M2, w1, w2, w3, w4, w5, w6⟩ := zSim_mv N h1 (k := k) (t := t) hk ht2 (fun _ => Or.inr (Or.inr (by rw [zup_other (by decide)]; exact ht)))
  refine ⟨zmv Q k t, S2, M2, ?_, ?_, w3, ?_, zFrM.up.tr (zFrM.of1 w6), ?_⟩
  · rw [s_hit_eq N hk hw hw12 r12 rr hv htt]; exact w1
  · rw [m_hit_eq N (w := w) (v := v) (t := t) hk (by rw [q1]; exact hw) hw12 (by rw [q5]; exact r12) (by rw [e2]; exact rr) (by rw [q5]; exact hv) (by rw [e2]; exact htt)]; exact w2
  · have : zFrS S (zup S 12 k v) := ⟨zup_other (by decide), zup_other (by decide), zup_other (by decide)⟩
    exact this.tr w5.fr
  · rw [w5 11 (by decide) (by decide)]; exact zup_other (by decide)
theorem s_isThing (N : Nat) {S : zM} {k : Nat} (hk : k < 400) (hr : 0 ≤ S 9 k ∧ S 9 k ≤ 4) : fX3_isThing N (k : Int) S = some ((if S 9 k = 1 ∨ S 9 k = 2 then 1 else 0), S) := by
  unfold fX3_isThing sX3_isThing_19 zg zi zl
  dsimp only
  rw [show ((k : Int)).toNat = k by omega, if_pos (by omega), if_pos (by constructor <;> omega)]
  by_cases h1 : S 9 k = 1
  · rw [if_pos h1, if_pos (Or.inl h1)]
  · rw [if_neg h1]
    by_cases h2 : S 9 k = 2
    · rw [if_pos h2, if_pos (Or.inr h2)]
    · rw [if_neg h2, if_neg (fun q => q.elim h1 h2)]
theorem m_isThing (N : Nat) {M : zM} {k : Nat} (hk : k < 400) (hr : 0 ≤ M 1 k ∧ M 1 k ≤ 4) : fX8_isThing N (k : Int) M = some ((if M 1 k = 1 ∨ M 1 k = 2 then 1 else 0), M) := by
  unfold fX8_isThing sX8_isThing_24 zg zi
  rw [show ((0 : Int) + (k : Int)).toNat = k by omega, if_pos (by omega), if_pos (by constructor <;> omega)]
  by_cases h1 : M 1 k = 1
  · rw [if_pos h1, if_pos (Or.inl h1)]
  · rw [if_neg h1]
    by_cases h2 : M 1 k = 2
    · rw [if_pos h2, if_pos (Or.inr h2)]
    · rw [if_neg h2, if_neg (fun q => q.elim h1 h2)]
/-- a get: whether a thing was there; what was had grows by that -/
theorem sim_fetch (N : Nat) (hN : 6000 < N) {b c : Int} {e : Bool} {Q : Nat → List Nat} {S M : zM} (h : zSim e b c Q S M) {k : Nat} (hk : k < 400) (hc : c ≤ 1899990000) :
    ∃ r Q' S' M', fX3_fetch N (k : Int) S = some (r, S') ∧ fX8_gets N (k : Int) M = some (r, M') ∧ zSim e b (c + 6001) Q' S' M' ∧ S' 15 = S 15 ∧ S' 1 = S 1 ∧ zFrM M M' ∧ S' 2 0 = S 2 0 + r ∧ (r = if S 9 k = 1 ∨ S 9 k = 2 then 1 else 0) := by
  obtain ⟨q1, q2, q3, q4, q5, q6, q7⟩ := h.ef k hk
  have hr := h.ci.2.2 k hk
  obtain ⟨⟨-, -, -, -⟩, p0, p1, p2, p3, p4⟩ := h.es
  by_cases ht : S 9 k = 1 ∨ S 9 k = 2
  · obtain ⟨Q1, S1, M1, a1, a2, a3, a4, a5, a6⟩ := sim_hit N h hk ht
    have b4 : M1 1 (1200 + k) = S1 11 k := (a3.ef k hk).2.2.2.1
    have b3 : M1 1 3212 = S1 2 3 := a3.es.2.2.2.2.1
    have b0 : M1 1 3209 = S1 2 0 := a3.es.2.1
    have h2 := zSim_tally a3 (i := 3) (by omega) (S1 2 3 + S1 11 k)
    have h3 := zSim_tally h2 (i := 0) (by omega) (S1 2 0 + 1)
    obtain ⟨Q4, S4, M4, c1, c2, c3, c4, c5⟩ := sim_trim N hN h3 (by omega)
    refine ⟨1, Q4, S4, M4, ?_, ?_, c3.weak (by omega), ?_, ?_, ?_, ?_, by rw [if_pos ht]⟩
    · unfold fX3_fetch zc2 zc zg zi zl
      rw [s_isThing N hk hr, if_pos ht]
      dsimp only
      rw [if_pos (by decide), if_neg (by decide), a1]
      dsimp only
      rw [show ((k : Int)).toNat = k by omega, if_pos (by omega)]
      have : zup S1 2 3 (S1 2 3 + S1 11 k) 2 0 = S1 2 0 := by rw [zup_self, if_neg (by decide)]
      rw [this, c1]
    · unfold fX8_gets zc2 zc zg zi zl
      rw [m_isThing N hk (by rw [q1]; exact hr), q1, if_pos ht]
      dsimp only
      rw [if_pos (by decide), if_neg (by decide), a2]
      dsimp only
      rw [show ((1200 : Int) + (k : Int)).toNat = 1200 + k by omega, if_pos (by omega), b3, b4]
      have : zup M1 1 3212 (S1 2 3 + S1 11 k) 1 3209 = S1 2 0 := by rw [zup_self, if_neg (by decide), b0]
      rw [this]
      have c2 : fX8_trim N (zup (zup M1 1 3212 (S1 2 3 + S1 11 k)) 1 3209 (S1 2 0 + 1)) = some M4 := c2
      rw [c2]
    · rw [c4.2.2, zup_other (by decide), zup_other (by decide)]; exact a4.2.2
    · rw [c4.1, zup_other (by decide), zup_other (by decide)]; exact a4.1
    · exact ((a5.tr zFrM.up).tr zFrM.up).tr c5
    · rw [c4.2.1, zup_eq, a4.2.1]
  · have h2 := zSim_tally h (i := 1) (by omega) (S 2 1 + 1)
    have s9 : zup S 2 1 (S 2 1 + 1) 9 k = S 9 k := by rw [zup_other (by decide)]
    have s22 : zup S 2 1 (S 2 1 + 1) 2 2 = S 2 2 := by rw [zup_self, if_neg (by decide)]
    have m0 : zup M 1 3210 (S 2 1 + 1) 1 k = S 9 k := by rw [zup_self, if_neg (by omega), q1]
    have m2 : zup M 1 3210 (S 2 1 + 1) 1 3211 = S 2 2 := by rw [zup_self, if_neg (by decide), p2]
    by_cases h0 : S 9 k = 0
    · refine ⟨0, Q, zup S 2 1 (S 2 1 + 1), zup (zup M 1 3210 (S 2 1 + 1)) 1 3211 (S 2 2 + 0), ?_, ?_, ?_, zup_other (by decide), zup_other (by decide), zFrM.up.tr zFrM.up, by rw [zup_self, if_neg (by decide)]; omega, by rw [if_neg ht]⟩
      · unfold fX3_fetch zc2 zg zi zl
        rw [s_isThing N hk hr, if_neg ht]
        dsimp only
        rw [if_pos (by decide), if_pos rfl, show ((k : Int)).toNat = k by omega, if_pos (by omega), s9, if_pos (by rw [h0]; decide), if_pos h0]
      · unfold fX8_gets sX8_gets_45 zc2 zg zi zl
        rw [m_isThing N hk (by rw [q1]; exact hr), q1, if_neg ht]
        dsimp only
        rw [if_pos (by decide), if_pos rfl, show ((0 : Int) + (k : Int)).toNat = k by omega, if_pos (by omega), p1, m0, m2, if_pos (by rw [h0]; decide), if_pos h0, if_pos (by decide)]
        rfl
      · have e9 : zup (zup M 1 3210 (S 2 1 + 1)) 1 3211 (S 2 2 + 0) = zup M 1 3210 (S 2 1 + 1) := by
          funext a d
          rw [zup_at]
          by_cases hq : a = 1 ∧ d = 3211
          · rw [if_pos hq, hq.1, hq.2, m2]; omega
          · rw [if_neg hq]
        rw [e9]
        exact h2.weak (by omega)
    · have h3 := zSim_tally h2 (i := 2) (by omega) (S 2 2 + 1)
      refine ⟨0, Q, zup (zup S 2 1 (S 2 1 + 1)) 2 2 (S 2 2 + 1), zup (zup M 1 3210 (S 2 1 + 1)) 1 3211 (S 2 2 + 1), ?_, ?_, h3.weak (by omega), by rw [zup_other (by decide), zup_other (by decide)], by rw [zup_other (by decide), zup_other (by decide)], zFrM.up.tr zFrM.up, by rw [zup_self, if_neg (by decide), zup_self, if_neg (by decide)]; omega, by rw [if_neg ht]⟩
      · unfold fX3_fetch zc2 zg zi zl
        rw [s_isThing N hk hr, if_neg ht]
        dsimp only
        rw [if_pos (by decide), if_pos rfl, show ((k : Int)).toNat = k by omega, if_pos (by omega), s9, s22, if_pos (by constructor <;> omega), if_neg h0]
      · unfold fX8_gets sX8_gets_45 zc2 zg zi zl
        rw [m_isThing N hk (by rw [q1]; exact hr), q1, if_neg ht]
        dsimp only
        rw [if_pos (by decide), if_pos rfl, show ((0 : Int) + (k : Int)).toNat = k by omega, if_pos (by omega), p1, m0, m2, if_pos (by constructor <;> omega), if_neg h0, if_pos (by decide)]
        rfl
