/-- a key goes for good, on both sides -/
theorem sim_went (N : Nat) (hN : 400 < N) {e : Bool} {b c : Int} {Q : Nat → List Nat} {S M : zM} (h : zSim e b c Q S M) {k t : Nat} (hk : k < 400) (ht : t = 3 ∨ t = 4) (hp : S 14 k = 0) (hk12 : k ∈ Q 1 ∨ k ∈ Q 2) (hc : c ≤ 2000000000) :
    ∃ S1 L M', fX3_move N (k : Int) (t : Int) S = some S1 ∧ fX1_add N (k : Int) (zpk is_16n2 S1) = some L ∧ fX8_went N (k : Int) (t : Int) M = some M' ∧ zSim e b (c + 1) (zmv Q k t) (zpt is_16n2 S1 L) M' ∧ zFrS S (zpt is_16n2 S1 L) ∧ zFrM M M' := by
  obtain ⟨S1, M1, m1, m2, m3, m4, m5, m6⟩ := zSim_mv N h (k := k) (t := t) hk (by omega) (fun _ => by omega)
  have e16 : S1 16 = S 16 := m5 16 (by decide) (by decide)
  obtain ⟨L, l1, l2, l3, l4⟩ := s_leave N (S := S1) (k := k) ⟨m3.eg.2.1, by have := m3.eg.2.2.1; omega⟩
  have hp1 : M1 1 (2400 + k) = 0 := by rw [(m3.ef k hk).2.2.2.2.2.2, m5 14 (by decide) (by decide)]; exact hp
  obtain ⟨M', r1, r2, r3, r4, r5, r6⟩ := m_went20 N hk 19 N (zup M1 1 (2400 + k) 0) (by omega) (by omega) (by rw [zup_other (by decide)]; exact m3.gg.1)
  have hg : ∀ j, M' 1 j = if 3216 ≤ j ∧ j ≤ 3235 then (if j = 3216 then (k : Int) else M1 1 (j - 1)) else if j = 3214 then M1 1 3214 + 1 else M1 1 j := by
    intro j
    have hz : ∀ i, zup M1 1 (2400 + k) 0 1 i = M1 1 i := fun i => by
      rw [zup_self]
      by_cases hi : i = 2400 + k
      · rw [if_pos hi, hi, hp1]
      · rw [if_neg hi]
    rw [r2 j, hz, hz, hz]
  have rest : ∀ j, ¬ (3216 ≤ j ∧ j ≤ 3235) → j ≠ 3214 → M' 1 j = M1 1 j := fun j h1 h2 => by rw [hg, if_neg h1, if_neg h2]
  have q12 : ∀ r, r ≠ 16 → r ≠ 17 → zpt is_16n2 S1 L r = S1 r := l4
  refine ⟨S1, L, M', m1, l1, ?_, ⟨?_, ?_, ?_, ?_, ?_, ?_, ?_, ?_, ?_⟩, ?_, ?_⟩
  · unfold fX8_went zc zg zl
    rw [m2]
    dsimp only
    rw [show ((2400 : Int) + (k : Int)).toNat = 2400 + k by omega, if_pos (by omega)]
    exact r1
  · exact zCI_off m3.ci (q12 4 (by decide) (by decide)) (q12 5 (by decide) (by decide)) (q12 6 (by decide) (by decide)) (q12 7 (by decide) (by decide)) (q12 9 (by decide) (by decide)) (q12 10 (by decide) (by decide))
  · refine zMI_still m3.mi ⟨fun j hj => ⟨rest j (by omega) (by omega), rest (800 + j) (by omega) (by omega), rest (2800 + j) (by omega) (by omega)⟩, fun w hw => rest (3204 + w) (by omega) (by omega), rest 3215 (by omega) (by omega)⟩
  · intro j hj
    rw [rest j (by omega) (by omega), rest (400 + j) (by omega) (by omega), rest (800 + j) (by omega) (by omega), rest (1200 + j) (by omega) (by omega), rest (1600 + j) (by omega) (by omega), rest (2000 + j) (by omega) (by omega), rest (2400 + j) (by omega) (by omega)]
    rw [q12 9 (by decide) (by decide), q12 15 (by decide) (by decide), q12 10 (by decide) (by decide), q12 11 (by decide) (by decide), q12 12 (by decide) (by decide), q12 13 (by decide) (by decide), q12 14 (by decide) (by decide)]
    exact m3.ef j hj
  · unfold zEs
    rw [rest 3200 (by omega) (by omega), rest 3201 (by omega) (by omega), rest 3202 (by omega) (by omega), rest 3203 (by omega) (by omega), rest 3209 (by omega) (by omega), rest 3210 (by omega) (by omega), rest 3211 (by omega) (by omega), rest 3212 (by omega) (by omega), rest 3213 (by omega) (by omega), q12 1 (by decide) (by decide), q12 2 (by decide) (by decide)]
    exact m3.es
  · obtain ⟨b1, b2, b3, b4⟩ := m3.eg
    have b9 := h.eg.2.2.1
    rw [← e16] at b9
    refine ⟨?_, ?_, ?_, fun i hi hi2 => ?_⟩
    · rw [hg, if_neg (by omega), if_pos rfl, l2, b1]
    · rw [l2]; omega
    · rw [l2]; omega
    · rw [l2] at hi2 ⊢
      rw [hg, if_pos (show 3216 ≤ 3216 + i ∧ 3216 + i ≤ 3235 by omega), l3]
      unfold zu
      by_cases hi0 : i = 0
      · subst hi0
        rw [if_pos rfl, if_pos (by omega)]
      · rw [if_neg (by omega), if_neg (by omega)]
        have := b4 (i - 1) (by omega) (by omega)
        rw [show 3216 + (i - 1) = 3216 + i - 1 by omega] at this
        rw [this]
        congr 2
        omega
  · obtain ⟨b1, b2, b3, b4⟩ := m3.eb
    unfold zEb
    rw [q12 18 (by decide) (by decide), q12 19 (by decide) (by decide), q12 20 (by decide) (by decide), rest 3236 (by omega) (by omega)]
    refine ⟨b1, b2, b3, fun i hi => ?_⟩
    rw [rest (3237 + 2 * i) (by omega) (by omega), rest (3238 + 2 * i) (by omega) (by omega)]
    exact b4 i hi
  · unfold zRf
    rw [q12 10 (by decide) (by decide), q12 11 (by decide) (by decide), q12 12 (by decide) (by decide), q12 13 (by decide) (by decide), q12 14 (by decide) (by decide)]
    exact m3.rf
  · unfold zRs
    rw [q12 1 (by decide) (by decide)]
    exact m3.rs
  · have g0 := m3.gg.1
    have e05 : zup M1 1 (2400 + k) 0 0 5 = M1 0 5 := by rw [zup_other (by decide)]
    have e4 : zup M1 1 (2400 + k) 0 4 = M1 4 := by rw [zup_other (by decide)]
    rw [e05] at r5 r6
    rw [e4] at r6
    have m05 : M1 0 5 = M 0 5 := by rw [m6 0 (by decide)]
    refine ⟨?_, fun he => ?_⟩
    · rw [r5]
      split <;> omega
    · obtain ⟨g1, g2, g3, g4⟩ := h.gg.2 he
      have hlen : ((zmv Q k t 1).length : Int) + (zmv Q k t 2).length + 1 ≤ (Q 1).length + (Q 2).length := by
        rw [zmv_len (zCI_nd h.ci (w := 1) (by omega) (by omega)), zmv_len (zCI_nd h.ci (w := 2) (by omega) (by omega)), if_neg (show ¬ 1 = t by omega), if_neg (show ¬ 2 = t by omega)]
        rcases hk12 with q | q
        · rw [if_pos q]; split <;> omega
        · rw [if_pos q]; split <;> omega
      have hlt : M1 0 5 < 400 := by rw [m05]; omega
      have hb16 := h.eg.2.1
      rw [if_pos hlt] at r5 r6
      rw [l2, l3, r5, r6, e16, m05]
      refine ⟨g1, by omega, by omega, fun j hj => ?_⟩
      unfold zu
      by_cases hj2 : (j : Int) < S 16 1 - b
      · rw [if_neg (by omega), if_neg (by omega), m6 4 (by decide), m5 17 (by decide) (by decide)]
        exact g4 j hj2
      · rw [if_pos (by omega), if_pos (by congr 1; omega)]
  · exact m5.fr.tr ⟨q12 1 (by decide) (by decide), q12 2 (by decide) (by decide), q12 15 (by decide) (by decide)⟩
  · refine (zFrM.of1 m6).tr ⟨fun r h0 h1 h4 => ?_, fun j hj => ?_⟩
    · rw [r3 r h0 h1 h4, zup_other h1]
    · rw [r4 j hj, zup_other (by decide)]
