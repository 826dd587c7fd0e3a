/-! a key comes anew -/
theorem zadm_r {S : zM} {k : Nat} {v w cst bo li : Int} :
    (∀ j, zadm S k v w cst bo li 1 j = if j = 1 then bo else S 1 j) ∧ (∀ j, zadm S k v w cst bo li 2 j = if j = 4 then S 2 4 + cst else S 2 j) ∧
    (∀ j, zadm S k v w cst bo li 15 j = if j = k then v else S 15 j) ∧ (∀ j, zadm S k v w cst bo li 10 j = if j = k then w else S 10 j) ∧ (∀ j, zadm S k v w cst bo li 11 j = if j = k then cst else S 11 j) ∧
    (∀ j, zadm S k v w cst bo li 12 j = if j = k then 0 else S 12 j) ∧ (∀ j, zadm S k v w cst bo li 13 j = if j = k then li else S 13 j) ∧ (∀ j, zadm S k v w cst bo li 14 j = if j = k then 0 else S 14 j) ∧
    ∀ r, r ≠ 1 → r ≠ 2 → r ≠ 15 → r ≠ 10 → r ≠ 11 → r ≠ 12 → r ≠ 13 → r ≠ 14 → zadm S k v w cst bo li r = S r := by
  unfold zadm
  refine ⟨fun j => ?_, fun j => ?_, fun j => ?_, fun j => ?_, fun j => ?_, fun j => ?_, fun j => ?_, fun j => ?_, fun r h1 h2 h3 h4 h5 h6 h7 h8 => ?_⟩
  · rw [zup_other (by decide), zup_other (by decide), zup_other (by decide), zup_other (by decide), zup_other (by decide), zup_other (by decide), zup_other (by decide), zup_self]
  · rw [zup_other (by decide), zup_other (by decide), zup_other (by decide), zup_other (by decide), zup_other (by decide), zup_other (by decide), zup_self, zup_other (by decide)]
  · rw [zup_other (by decide), zup_other (by decide), zup_other (by decide), zup_other (by decide), zup_other (by decide), zup_self, zup_other (by decide), zup_other (by decide)]
  · rw [zup_other (by decide), zup_other (by decide), zup_other (by decide), zup_other (by decide), zup_self, zup_other (by decide), zup_other (by decide), zup_other (by decide)]
  · rw [zup_other (by decide), zup_other (by decide), zup_other (by decide), zup_self, zup_other (by decide), zup_other (by decide), zup_other (by decide), zup_other (by decide)]
  · rw [zup_other (by decide), zup_other (by decide), zup_self, zup_other (by decide), zup_other (by decide), zup_other (by decide), zup_other (by decide), zup_other (by decide)]
  · rw [zup_other (by decide), zup_self, zup_other (by decide), zup_other (by decide), zup_other (by decide), zup_other (by decide), zup_other (by decide), zup_other (by decide)]
  · rw [zup_self, zup_other (by decide), zup_other (by decide), zup_other (by decide), zup_other (by decide), zup_other (by decide), zup_other (by decide), zup_other (by decide)]
  · rw [zup_other h8, zup_other h7, zup_other h6, zup_other h5, zup_other h4, zup_other h3, zup_other h2, zup_other h1]
/-- the reference's row behind a key's coming -/
theorem zput_r {M : zM} {k x : Nat} {v w cst bo li : Int} (hk : k < 400) (hx : x ≤ 4) : (∀ r, r ≠ 1 → zput M k x v w cst bo li r = M r) ∧
    zput M k x v w cst bo li 1 3201 = bo ∧ zput M k x v w cst bo li 1 3213 = M 1 3213 + cst ∧
    zput M k x v w cst bo li 1 (400 + k) = v ∧ zput M k x v w cst bo li 1 (800 + k) = w ∧ zput M k x v w cst bo li 1 (1200 + k) = cst ∧ zput M k x v w cst bo li 1 (1600 + k) = 0 ∧ zput M k x v w cst bo li 1 (2000 + k) = li ∧ zput M k x v w cst bo li 1 (2400 + k) = 0 ∧
    (∀ i, i ≠ 3201 → i ≠ 3213 → i ≠ 400 + k → i ≠ 800 + k → i ≠ 1200 + k → i ≠ 1600 + k → i ≠ 2000 + k → i ≠ 2400 + k → zput M k x v w cst bo li 1 i = if i = 3204 + x then M 1 (3204 + x) + (w - M 1 (800 + k)) else M 1 i) := by
  unfold zput
  refine ⟨fun r hr => ?_, ?_, ?_, ?_, ?_, ?_, ?_, ?_, ?_, fun i h1 h2 h3 h4 h5 h6 h7 h8 => ?_⟩
  · rw [zup_other hr, zup_other hr, zup_other hr, zup_other hr, zup_other hr, zup_other hr, zup_other hr, zup_other hr, zup_other hr]
  · rw [zup_eq]
  · simp only [zup_self]
    rw [if_neg (by omega), if_neg (by omega), if_neg (by omega), if_neg (by omega), if_pos trivial]
  · simp only [zup_self]
    rw [if_neg (by omega), if_neg (by omega), if_neg (by omega), if_neg (by omega), if_neg (by omega), if_neg (by omega), if_pos trivial]
  · simp only [zup_self]
    rw [if_neg (by omega), if_neg (by omega), if_neg (by omega), if_neg (by omega), if_neg (by omega), if_neg (by omega), if_neg (by omega), if_pos trivial]
  · simp only [zup_self]
    rw [if_neg (by omega), if_neg (by omega), if_neg (by omega), if_neg (by omega), if_neg (by omega), if_pos trivial]
  · simp only [zup_self]
    rw [if_neg (by omega), if_neg (by omega), if_neg (by omega), if_pos trivial]
  · simp only [zup_self]
    rw [if_neg (by omega), if_pos trivial]
  · simp only [zup_self]
    rw [if_neg (by omega), if_neg (by omega), if_pos trivial]
  · simp only [zup_self]
    rw [if_neg h1, if_neg h7, if_neg h8, if_neg h6, if_neg h2, if_neg h5, if_neg h3, if_neg h4]
theorem zbor_r {x : Nat} {B C w : Int} (hB : 0 ≤ B ∧ B ≤ 99) (hC : 0 ≤ C ∧ C ≤ 99) (hw : 1 ≤ w ∧ w ≤ 9) : 0 ≤ zbor x B C w ∧ zbor x B C w ≤ 99 := by
  unfold zbor
  by_cases h3 : x = 3
  · rw [if_pos h3]; split <;> omega
  · rw [if_neg h3]
    by_cases h4 : x = 4
    · rw [if_pos h4]; split <;> omega
    · rw [if_neg h4]; exact hB
theorem sim_store_new (N : Nat) (hN : 6000 < N) {b c : Int} {Q : Nat → List Nat} {S M : zM} (h : zSim false b c Q S M) {k x : Nat} {v w cst : Int} (hk : k < 400) (hw : 1 ≤ w ∧ w ≤ 9) (hcs : 0 ≤ cst ∧ cst ≤ 99) (hc : c ≤ 1899990000) (hx : x = 0 ∨ x = 3 ∨ x = 4) (h9 : S 9 k = (x : Int)) :
    ∃ Q' S' M', fX3_store N (k : Int) v w cst S = some ((if x = 0 then 0 else 1), S') ∧ fX8_putIn N (k : Int) v w cst M = some ((if x = 0 then 0 else 1), M') ∧ zSim false b (c + 6001) Q' S' M' ∧ S' 1 0 = S 1 0 ∧ S' 2 0 = S 2 0 ∧ zFrM M M' ∧ (∀ j, S' 15 j = if j = k then v else S 15 j) := by
  have hx4 : x ≤ 4 := by omega
  obtain ⟨⟨b0, b0'⟩, ⟨b1, b1'⟩, ⟨b2, b2'⟩, ⟨b3, b3'⟩⟩ := h.rs
  have hr := h.ci.2.2 k hk
  have m9 : M 1 k = (x : Int) := by rw [(h.ef k hk).1]; exact h9
  obtain ⟨⟨e0, e1, e2, e3⟩, p0, p1, p2, p3, p4⟩ := h.es
  obtain ⟨t, ht⟩ : ∃ t : Nat, t = if x = 0 then 1 else 2 := ⟨_, rfl⟩
  have ht4 : t ≤ 4 := by rw [ht]; split <;> omega
  have hti : (t : Int) = if x = 0 then 1 else 2 := by rw [ht]; split <;> rfl
  obtain ⟨bo, hbo⟩ : ∃ bo, bo = zbor x (S 1 1) (S 1 0) w := ⟨_, rfl⟩
  have hbor : 0 ≤ bo ∧ bo ≤ 99 := by rw [hbo]; exact zbor_r ⟨b1, b1'⟩ ⟨b0, b0'⟩ hw
  obtain ⟨li, hli⟩ : ∃ li, li = if x = 0 then S 1 3 else 0 := ⟨_, rfl⟩
  have hlir : 0 ≤ li ∧ li ≤ 9 := by rw [hli]; split <;> omega
  -- the component's side
  obtain ⟨S4, s1, s2, s3, s4⟩ := s_move N h.ci hk (t := 0) (by omega)
  have s1 : fX3_move N (k : Int) 0 S = some S4 := s1
  have ha := s_admit_eq N (v := v) (cst := cst) hk hx h9 s1 (s4 1 (by decide) (by decide)) ⟨b1, b1'⟩ ⟨b0, b0'⟩ hw
  rw [← hbo, ← hti, ← hli] at ha
  obtain ⟨A, hA⟩ : ∃ A, A = zadm S4 k v w cst bo li := ⟨_, rfl⟩
  rw [← hA] at ha
  obtain ⟨A1, A2, A15, A10, A11, A12, A13, A14, Ao⟩ := zadm_r (S := S4) (k := k) (v := v) (w := w) (cst := cst) (bo := bo) (li := li)
  rw [← hA] at A1 A2 A15 A10 A11 A12 A13 A14 Ao
  have cA : zCI (zmv Q k 0) A := by
    have c1 : zCI (zmv Q k 0) (zup S4 10 k w) := zCI_w0 s2 (fun u hu hu4 q => by
      rcases zmv_mem.mp q with ⟨-, q⟩ | ⟨-, q⟩
      · exact q rfl
      · omega)
    refine zCI_off c1 ?_ ?_ ?_ ?_ ?_ ?_
    · rw [Ao 4 (by decide) (by decide) (by decide) (by decide) (by decide) (by decide) (by decide) (by decide), zup_other (by decide)]
    · rw [Ao 5 (by decide) (by decide) (by decide) (by decide) (by decide) (by decide) (by decide) (by decide), zup_other (by decide)]
    · rw [Ao 6 (by decide) (by decide) (by decide) (by decide) (by decide) (by decide) (by decide) (by decide), zup_other (by decide)]
    · rw [Ao 7 (by decide) (by decide) (by decide) (by decide) (by decide) (by decide) (by decide) (by decide), zup_other (by decide)]
    · rw [Ao 9 (by decide) (by decide) (by decide) (by decide) (by decide) (by decide) (by decide) (by decide), zup_other (by decide)]
    · funext j
      rw [A10, zup_self]
  obtain ⟨S5, t1, t2, t3, t4⟩ := s_move N cA hk ht4
  have cS5 : zCI (zmv Q k t) S5 := zCI_congr t2 (fun u hu _ => (zmv_mv hu).symm)
  -- the reference's side
  have hm := m_put_eq N (M := M) (v := v) (cst := cst) hk hx m9 (by rw [e1]; exact ⟨b1, b1'⟩) (by rw [e0]; exact ⟨b0, b0'⟩) hw
  rw [e1, e0, ← hbo, e3, ← hli, ← hti] at hm
  obtain ⟨P, hP⟩ : ∃ P, P = zput M k x v w cst bo li := ⟨_, rfl⟩
  rw [← hP] at hm
  obtain ⟨Po, P1, P2, P4, P8, P12, P16, P20, P24, Pr⟩ := zput_r (M := M) (x := x) (v := v) (w := w) (cst := cst) (bo := bo) (li := li) hk hx4
  rw [← hP] at Po P1 P2 P4 P8 P12 P16 P20 P24 Pr
  have mw := zMI_wt h.mi (v := w) hx4 hk m9
  have hg : ∀ i, zup (zup M 1 (3204 + x) (M 1 (3204 + x) + (w - M 1 (800 + k)))) 1 (800 + k) w 1 i = if i = 800 + k then w else if i = 3204 + x then M 1 (3204 + x) + (w - M 1 (800 + k)) else M 1 i := fun i => by
    rw [zup_self, zup_self]
  have mP : zMI c Q (P 1) := by
    refine zMI_still mw ⟨fun j hj => ⟨?_, ?_, ?_⟩, fun u hu => ?_, ?_⟩
    · rw [hg, if_neg (by omega), Pr j (by omega) (by omega) (by omega) (by omega) (by omega) (by omega) (by omega) (by omega)]
    · rw [hg]
      by_cases hjk : j = k
      · rw [if_pos (by omega), hjk]; exact P8
      · rw [if_neg (by omega), Pr (800 + j) (by omega) (by omega) (by omega) (by omega) (by omega) (by omega) (by omega) (by omega)]
    · rw [hg, if_neg (by omega), Pr (2800 + j) (by omega) (by omega) (by omega) (by omega) (by omega) (by omega) (by omega) (by omega)]
    · rw [hg, if_neg (by omega), Pr (3204 + u) (by omega) (by omega) (by omega) (by omega) (by omega) (by omega) (by omega) (by omega)]
    · rw [hg, if_neg (by omega), Pr 3215 (by omega) (by omega) (by omega) (by omega) (by omega) (by omega) (by omega) (by omega)]
  obtain ⟨M6, u1, u2, ⟨u3, u5⟩, u4⟩ := m_goes N mP hk ht4
  -- side by side
  have S9 : ∀ j, S5 9 j = if j = k then (t : Int) else S 9 j := by
    intro j
    rw [t3, Ao 9 (by decide) (by decide) (by decide) (by decide) (by decide) (by decide) (by decide) (by decide), s3]
    unfold zu
    split <;> rfl
  have so : ∀ r, r ≠ 9 → r ≠ 1 → r ≠ 2 → r ≠ 15 → r ≠ 10 → r ≠ 11 → r ≠ 12 → r ≠ 13 → r ≠ 14 → (r < 3 ∨ 7 < r) → S5 r = S r := fun r q9 q1 q2 q15 q10 q11 q12 q13 q14 q7 => by
    rw [t4 r q9 q7, Ao r q1 q2 q15 q10 q11 q12 q13 q14, s4 r q9 q7]
  have S51 : ∀ j, S5 1 j = if j = 1 then bo else S 1 j := fun j => by rw [t4 1 (by decide) (by decide), A1, s4 1 (by decide) (by decide)]
  have S52 : ∀ j, S5 2 j = if j = 4 then S 2 4 + cst else S 2 j := fun j => by rw [t4 2 (by decide) (by decide), A2, s4 2 (by decide) (by decide)]
  have S515 : ∀ j, S5 15 j = if j = k then v else S 15 j := fun j => by rw [t4 15 (by decide) (by decide), A15, s4 15 (by decide) (by decide)]
  have S510 : ∀ j, S5 10 j = if j = k then w else S 10 j := fun j => by rw [t4 10 (by decide) (by decide), A10, s4 10 (by decide) (by decide)]
  have S511 : ∀ j, S5 11 j = if j = k then cst else S 11 j := fun j => by rw [t4 11 (by decide) (by decide), A11, s4 11 (by decide) (by decide)]
  have S512 : ∀ j, S5 12 j = if j = k then 0 else S 12 j := fun j => by rw [t4 12 (by decide) (by decide), A12, s4 12 (by decide) (by decide)]
  have S513 : ∀ j, S5 13 j = if j = k then li else S 13 j := fun j => by rw [t4 13 (by decide) (by decide), A13, s4 13 (by decide) (by decide)]
  have S514 : ∀ j, S5 14 j = if j = k then 0 else S 14 j := fun j => by rw [t4 14 (by decide) (by decide), A14, s4 14 (by decide) (by decide)]
  have mo : ∀ i, i ≠ k → i ≠ 2800 + k → ¬ (3204 ≤ i ∧ i ≤ 3208) → i ≠ 3215 → M6 1 i = P 1 i := u5
  have mr : ∀ i, i ≠ k → i ≠ 2800 + k → ¬ (3204 ≤ i ∧ i ≤ 3208) → i ≠ 3215 → i ≠ 3201 → i ≠ 3213 → i ≠ 400 + k → i ≠ 800 + k → i ≠ 1200 + k → i ≠ 1600 + k → i ≠ 2000 + k → i ≠ 2400 + k → M6 1 i = M 1 i := fun i a1 a2 a3 a4 a5 a6 a7 a8 a9 a10 a11 a12 => by
    rw [mo i a1 a2 a3 a4, Pr i a5 a6 a7 a8 a9 a10 a11 a12, if_neg (by omega)]
  have sim : zSim false b (c + 1) (zmv Q k t) S5 M6 := by
    refine ⟨cS5, u2, fun j hj => ?_, ?_, ?_, ?_, fun j hj => ?_, ?_, ?_⟩
    · obtain ⟨q1, q2, q3, q4, q5, q6, q7⟩ := h.ef j hj
      rw [S9, S515, S510, S511, S512, S513, S514]
      by_cases hjk : j = k
      · subst hjk
        rw [if_pos rfl, if_pos rfl, if_pos rfl, if_pos rfl, if_pos rfl, if_pos rfl, if_pos rfl]
        refine ⟨u3, ?_, ?_, ?_, ?_, ?_, ?_⟩
        · rw [mo _ (by omega) (by omega) (by omega) (by omega)]; exact P4
        · rw [mo _ (by omega) (by omega) (by omega) (by omega)]; exact P8
        · rw [mo _ (by omega) (by omega) (by omega) (by omega)]; exact P12
        · rw [mo _ (by omega) (by omega) (by omega) (by omega)]; exact P16
        · rw [mo _ (by omega) (by omega) (by omega) (by omega)]; exact P20
        · rw [mo _ (by omega) (by omega) (by omega) (by omega)]; exact P24
      · rw [if_neg hjk, if_neg hjk, if_neg hjk, if_neg hjk, if_neg hjk, if_neg hjk, if_neg hjk]
        have mj : ∀ o, o = 0 ∨ o = 400 ∨ o = 800 ∨ o = 1200 ∨ o = 1600 ∨ o = 2000 ∨ o = 2400 → M6 1 (o + j) = M 1 (o + j) := fun o ho => mr (o + j) (by omega) (by omega) (by omega) (by omega) (by omega) (by omega) (by omega) (by omega) (by omega) (by omega) (by omega) (by omega)
        have mj0 := mj 0 (by omega)
        rw [Nat.zero_add] at mj0
        rw [mj0, mj 400 (by omega), mj 800 (by omega), mj 1200 (by omega), mj 1600 (by omega), mj 2000 (by omega), mj 2400 (by omega)]
        exact ⟨q1, q2, q3, q4, q5, q6, q7⟩
    · have ms : ∀ i, i = 3200 ∨ i = 3202 ∨ i = 3203 ∨ i = 3209 ∨ i = 3210 ∨ i = 3211 ∨ i = 3212 → M6 1 i = M 1 i := fun i hi => mr i (by omega) (by omega) (by omega) (by omega) (by omega) (by omega) (by omega) (by omega) (by omega) (by omega) (by omega) (by omega)
      unfold zEs
      rw [ms 3200 (by omega), ms 3202 (by omega), ms 3203 (by omega), ms 3209 (by omega), ms 3210 (by omega), ms 3211 (by omega), ms 3212 (by omega), mo 3201 (by omega) (by omega) (by omega) (by omega), mo 3213 (by omega) (by omega) (by omega) (by omega), P1, P2, S51, S51, S51, S51, S52, S52, S52, S52, S52]
      exact ⟨⟨e0, rfl, e2, e3⟩, p0, p1, p2, p3, by rw [p4]; rfl⟩
    · obtain ⟨g1, g2, g3, g4⟩ := h.eg
      unfold zEg
      rw [so 16 (by decide) (by decide) (by decide) (by decide) (by decide) (by decide) (by decide) (by decide) (by decide) (by decide), so 17 (by decide) (by decide) (by decide) (by decide) (by decide) (by decide) (by decide) (by decide) (by decide) (by decide)]
      have mg : ∀ i, 3214 ≤ i → i ≠ 3215 → M6 1 i = M 1 i := fun i hi hi2 => mr i (by omega) (by omega) (by omega) (by omega) (by omega) (by omega) (by omega) (by omega) (by omega) (by omega) (by omega) (by omega)
      rw [mg 3214 (by omega) (by omega)]
      exact ⟨g1, g2, by omega, fun i hi hi2 => by rw [mg (3216 + i) (by omega) (by omega)]; exact g4 i hi hi2⟩
    · obtain ⟨g1, g2, g3, g4⟩ := h.eb
      unfold zEb
      rw [so 18 (by decide) (by decide) (by decide) (by decide) (by decide) (by decide) (by decide) (by decide) (by decide) (by decide), so 19 (by decide) (by decide) (by decide) (by decide) (by decide) (by decide) (by decide) (by decide) (by decide) (by decide), so 20 (by decide) (by decide) (by decide) (by decide) (by decide) (by decide) (by decide) (by decide) (by decide) (by decide)]
      have mg : ∀ i, 3214 ≤ i → i ≠ 3215 → M6 1 i = M 1 i := fun i hi hi2 => mr i (by omega) (by omega) (by omega) (by omega) (by omega) (by omega) (by omega) (by omega) (by omega) (by omega) (by omega) (by omega)
      rw [mg 3236 (by omega) (by omega)]
      exact ⟨g1, g2, g3, fun i hi => by rw [mg (3237 + 2 * i) (by omega) (by omega), mg (3238 + 2 * i) (by omega) (by omega)]; exact g4 i hi⟩
    · obtain ⟨q1, q2, q3, q4, q5⟩ := h.rf j hj
      rw [S510, S511, S512, S513, S514]
      by_cases hjk : j = k
      · rw [if_pos hjk, if_pos hjk, if_pos hjk, if_pos hjk, if_pos hjk]
        exact ⟨by omega, hcs, by omega, hlir, Or.inl rfl⟩
      · rw [if_neg hjk, if_neg hjk, if_neg hjk, if_neg hjk, if_neg hjk]
        exact ⟨q1, q2, q3, q4, q5⟩
    · unfold zRs
      rw [S51, S51, S51, S51]
      exact ⟨⟨b0, b0'⟩, hbor, ⟨b2, b2'⟩, ⟨b3, b3'⟩⟩
    · unfold zGg
      rw [so 16 (by decide) (by decide) (by decide) (by decide) (by decide) (by decide) (by decide) (by decide) (by decide) (by decide), u4 0 (by decide), Po 0 (by decide)]
      exact ⟨h.gg.1, fun q => by cases q⟩
  obtain ⟨Q7, S7, M7, c1, c2, c3, c4, c5⟩ := sim_trim N hN sim (by omega)
  refine ⟨Q7, S7, M7, ?_, ?_, c3.weak (by omega), ?_, ?_, ?_, ?_⟩
  · unfold fX3_store sX3_store_39 sX3_store_62 zc2 zc zg zi zl
    dsimp only
    rw [show ((k : Int)).toNat = k by omega, if_pos (by omega), s_isThing N hk hr, if_neg (by rw [h9]; omega)]
    dsimp only
    rw [if_pos (by decide), if_pos rfl, ha, t1]
    dsimp only
    rw [c1]
    dsimp only
    rw [if_pos (by rw [h9]; constructor <;> omega), h9]
    by_cases h0 : x = 0
    · rw [if_pos (show (x : Int) = 0 by omega), if_pos h0]
    · rw [if_neg (show ¬ (x : Int) = 0 by omega), if_neg (show ¬ (x : Int) = 1 by omega), if_neg (show ¬ (x : Int) = 2 by omega), if_neg h0]
  · rw [hm]
    unfold zc
    rw [u1]
    dsimp only
    rw [c2]
  · rw [c4.1, S51, if_neg (by decide)]
  · rw [c4.2.1, S52, if_neg (by decide)]
  · refine zFrM.tr (zFrM.of1 (fun r hr => ?_)) c5
    rw [u4 r hr, Po r hr]
  · intro j
    rw [c4.2.2, S515]
/-- a key is put, wherever it is -/
theorem sim_store (N : Nat) (hN : 6000 < N) {b c : Int} {Q : Nat → List Nat} {S M : zM} (h : zSim false b c Q S M) {k : Nat} {v w cst : Int} (hk : k < 400) (hw : 1 ≤ w ∧ w ≤ 9) (hcs : 0 ≤ cst ∧ cst ≤ 99) (hc : c ≤ 1899990000) :
    ∃ r Q' S' M', fX3_store N (k : Int) v w cst S = some (r, S') ∧ fX8_putIn N (k : Int) v w cst M = some (r, M') ∧ zSim false b (c + 6001) Q' S' M' ∧ S' 1 0 = S 1 0 ∧ S' 2 0 = S 2 0 ∧ zFrM M M' ∧ (∀ j, S' 15 j = if j = k then v else S 15 j) := by
  have hr := h.ci.2.2 k hk
  by_cases ht : S 9 k = 1 ∨ S 9 k = 2
  · obtain ⟨Q', S', M', a1, a2, a3, a4, a5, a6, a7⟩ := sim_store_thing N hN h hk (v := v) hw hcs hc ht
    exact ⟨2, Q', S', M', a1, a2, a3, by rw [a4], by rw [a5], a6, a7⟩
  · obtain ⟨x, hx, hx2⟩ : ∃ x : Nat, S 9 k = (x : Int) ∧ (x = 0 ∨ x = 3 ∨ x = 4) := ⟨(S 9 k).toNat, by omega, by omega⟩
    obtain ⟨Q', S', M', a1, a2, a3, a4, a5, a6, a7⟩ := sim_store_new N hN h hk (v := v) hw hcs hc hx2 hx
    exact ⟨_, Q', S', M', a1, a2, a3, a4, a5, a6, a7⟩
/-- a key is dropped -/
theorem sim_drop (N : Nat) {b c : Int} {e : Bool} {Q : Nat → List Nat} {S M : zM} (h : zSim e b c Q S M) {k : Nat} (hk : k < 400) :
    ∃ Q' S' M', fX3_move N (k : Int) 0 S = some S' ∧ fX8_drops N (k : Int) M = some (S 9 k, M') ∧ zSim e b (c + 1) Q' S' M' ∧ S' 1 = S 1 ∧ S' 2 = S 2 ∧ zFrM M M' ∧ S' 15 = S 15 := by
  obtain ⟨S', M', a1, a2, a3, a4, a5, a6⟩ := zSim_mv N h hk (t := 0) (by omega) (fun _ => Or.inl rfl)
  have a1 : fX3_move N (k : Int) 0 S = some S' := a1
  have a2 : fX8_goes N (k : Int) 0 M = some M' := a2
  refine ⟨_, S', M', a1, ?_, a3, a5 1 (by decide) (by decide), a5 2 (by decide) (by decide), zFrM.of1 a6, a5 15 (by decide) (by decide)⟩
  unfold fX8_drops zg zl zc
  dsimp only
  rw [show ((0 : Int) + (k : Int)).toNat = k by omega, if_pos (by omega), a2, (h.ef k hk).1]
