/-! of, key, gone, count, book, looked, image, undo, feed -/
theorem s_place (N : Nat) (hN : 400 < N) {Q : Nat → List Nat} {S : zM} (h : zCI Q S) {k w : Nat} (hk : k < 400) (hw : S 9 k = (w : Int)) (hw4 : w ≤ 4) : fX3_placeOf N (k : Int) S = some ((if w = 0 then -5 else (((Q w).idxOf k : Nat) : Int)), S) := by
  unfold fX3_placeOf zg zi zl zc2
  dsimp only
  rw [show ((k : Int)).toNat = k by omega, hw, if_pos (by omega), if_pos (by constructor <;> omega)]
  by_cases h0 : w = 0
  · rw [if_pos (by omega), if_pos h0]
  · rw [if_neg (by omega), if_neg h0, zQ_placeOf N hN (by omega) (h.1.1 w (by omega) hw4).1 k ((zCI_mem h (by omega) hw4).mpr ⟨hk, hw⟩)]
    dsimp only
    rw [zpt_zpk]
theorem st_of (N : Nat) (hN : 6000 < N) {K : Bool} {c : Int} {MX MM : zM} (h : zInv K c MX MM) (hc : c ≤ 1899990000) {a1 a2 a3 : Int} (h1 : zR a1) (h2 : zR a2) (h3 : zR a3) : zOk K (c + 130000) (fX7_of N a1 a2 a3 MX) (fX8_of N a1 a2 a3 MM) := by
  obtain ⟨⟨Q, hs⟩, hv⟩ := zLive_pk h.1
  have hw := h.weak (c' := c + 130000) (by omega)
  unfold fX7_of fX8_of
  refine zOk_cl (e_keyOf N h1 h2) (zOk_cr (e_isKey N h1 h2) (zOk_ll ?_))
  by_cases hk : (0 ≤ a1 ∧ a1 ≤ 3) ∧ 0 ≤ a2 ∧ a2 ≤ 99
  · rw [if_pos hk, if_pos hk]
    obtain ⟨k, hk'⟩ : ∃ k : Nat, 100 * a1 + a2 = (k : Int) := ⟨(100 * a1 + a2).toNat, by omega⟩
    have hk4 : k < 400 := by omega
    rw [hk']
    have r04 := hs.ci.2.2 k hk4
    obtain ⟨q1, q2, q3, q4, q5, q6, q7⟩ := hs.ef k hk4
    have eS := s_isThing N (S := zpk is_1n21 MX) hk4 r04
    have eM := m_isThing N (M := MM) hk4 (by rw [q1]; exact r04)
    rw [q1] at eM
    have ik : ((k : Int)).toNat = k := by omega
    obtain ⟨w, hww⟩ : ∃ w : Nat, zpk is_1n21 MX 9 k = (w : Int) := ⟨(zpk is_1n21 MX 9 k).toNat, by omega⟩
    have e10 : MX 10 k = (w : Int) := by rw [← hww, zpk_1 (by decide)]; rfl
    rw [hww] at eS eM q1 r04
    refine zOk_gl (by constructor <;> omega) (zOk_fl (by omega) (zOk_gl h3 (zOk_gr (by decide) (zOk_fr (by decide) (zOk_cr (e_in N h3 (by decide) (by decide)) ?_)))))
    by_cases k0 : a3 < 0
    · rw [if_neg (show ¬ (0 ≤ a3 ∧ a3 ≤ 6) by omega)]
      exact zOk_tl k0 (zOk_gr (by decide) (zOk_tr rfl (zOk_s rfl hw)))
    · refine zOk_fl k0 ?_
      by_cases k6 : a3 ≤ 6
      · rw [if_pos (show (0 ≤ a3 ∧ a3 ≤ 6) by omega)]
        refine zOk_tl k6 (zOk_gl (by omega) (zOk_ll (zOk_gr (by decide) (zOk_fr (by decide) (zOk_lr (zOk_gr (by omega) (zOk_lr (zOk_gr h3 ?_))))))))
        rw [ik, show ((0 : Int) + (k : Int)).toNat = k by omega, e10, q1]
        have e88 : ∀ (f o : Nat) (v : Int), f < 7 → MX (10 + f) k = MM 1 (o + k) → o ≤ 2400 → ∀ y, (v = 0 → y = some (-5, MM)) → (v = 1 → y = some (MM 1 ((o : Int) + (k : Int)).toNat, MM)) → (v = 0 ∨ v = 1) → zOk K (c + 130000) (sX7_of_88 N (f : Int) (k : Int) v MX) y := by
          intro f o v hf he ho y y0 y1 hv01
          unfold sX7_of_88
          refine zOk_ll (zOk_gl (by constructor <;> omega) ?_)
          rcases hv01 with e | e
          · rw [y0 e]
            exact zOk_tl e (zOk_s rfl hw)
          · rw [y1 e]
            refine zOk_fl (by omega) (zOk_gl (by omega) (zOk_gl (by omega) (zOk_s ?_ hw)))
            rw [ik, show ((f : Int)).toNat = f by omega, show ((o : Int) + (k : Int)).toNat = o + k by omega, Nat.one_mul]
            exact he
        by_cases c0 : a3 = 0
        · exact zOk_tl c0 (zOk_fr (by omega) (zOk_tr c0 (zOk_s rfl hw)))
        · refine zOk_fl c0 ?_
          by_cases c6 : a3 = 6
          · refine zOk_tl c6 (zOk_2l (s_place N (by omega) hs.ci hk4 hww (by omega)) (zOk_ll (zOk_tr (by omega) (zOk_gr (by constructor <;> omega) ?_))))
            rw [zpt_zpk]
            by_cases w0 : w = 0
            · rw [if_pos w0]
              exact zOk_tr (by omega) (zOk_s rfl hw)
            · rw [if_neg w0]
              refine zOk_fr (by omega) (zOk_2r (m_place N (by omega) (by omega) hs.mi (w := w) (by omega) (by omega) ((zCI_mem hs.ci (by omega) (by omega)).mpr ⟨hk4, hww⟩)) (zOk_s rfl hw))
          · refine zOk_fl c6 (zOk_fr (by omega) (zOk_fr c0 ?_))
            have m15 : MX 11 k = MM 1 (800 + k) := by rw [q3, zpk_1 (by decide)]; rfl
            have m2 : MX 12 k = MM 1 (1200 + k) := by rw [q4, zpk_1 (by decide)]; rfl
            have m3 : MX 13 k = MM 1 (1600 + k) := by rw [q5, zpk_1 (by decide)]; rfl
            have m4 : MX 14 k = MM 1 (2000 + k) := by rw [q6, zpk_1 (by decide)]; rfl
            have m5 : MX 15 k = MM 1 (2400 + k) := by rw [q7, zpk_1 (by decide)]; rfl
            by_cases c1 : a3 = 1
            · subst c1
              refine zOk_tl rfl (zOk_tr rfl (zOk_gl (by constructor <;> omega) (zOk_gr (by constructor <;> omega) ?_)))
              by_cases w0 : (w : Int) = 0
              · refine zOk_tl w0 (zOk_tr w0 ?_)
                exact e88 1 800 0 (by omega) m15 (by omega) _ (fun _ => rfl) (fun q => absurd q (by decide)) (Or.inl rfl)
              · refine zOk_fl w0 (zOk_fr w0 (zOk_gr (by omega) ?_))
                exact e88 1 800 1 (by omega) m15 (by omega) _ (fun q => absurd q (by decide)) (fun _ => rfl) (Or.inr rfl)
            · refine zOk_fl c1 (zOk_fr c1 (zOk_2l eS (zOk_ll ?_)))
              rw [zpt_zpk]
              have hv01 : (if (w : Int) = 1 ∨ (w : Int) = 2 then (1 : Int) else 0) = 0 ∨ (if (w : Int) = 1 ∨ (w : Int) = 2 then (1 : Int) else 0) = 1 := by split <;> simp
              have y : ∀ o : Nat, o ≤ 2400 → ((if (w : Int) = 1 ∨ (w : Int) = 2 then (1 : Int) else 0) = 0 → (zc2 (fX8_isThing N (k : Int) MM) fun r19 M18 => zg (zR r19) <| zi (r19 = 0) (some ((-5:Int), M18)) <| zg (0 ≤ ((o:Int) + (k : Int)) ∧ ((o:Int) + (k : Int)) < (3253:Int)) <| some ((M18 1 ((o:Int) + (k : Int)).toNat), M18)) = some (-5, MM)) ∧ ((if (w : Int) = 1 ∨ (w : Int) = 2 then (1 : Int) else 0) = 1 → (zc2 (fX8_isThing N (k : Int) MM) fun r19 M18 => zg (zR r19) <| zi (r19 = 0) (some ((-5:Int), M18)) <| zg (0 ≤ ((o:Int) + (k : Int)) ∧ ((o:Int) + (k : Int)) < (3253:Int)) <| some ((M18 1 ((o:Int) + (k : Int)).toNat), M18)) = some (MM 1 ((o : Int) + (k : Int)).toNat, MM)) := by
                intro o ho
                rw [eM]
                unfold zc2 zg zi
                refine ⟨fun q => ?_, fun q => ?_⟩
                · dsimp only
                  rw [q, if_pos (by decide), if_pos rfl]
                · dsimp only
                  rw [q, if_pos (by decide), if_neg (by decide), if_pos (by omega)]
              by_cases c2 : a3 = 2
              · subst c2
                exact zOk_tr rfl (e88 2 1200 _ (by omega) m2 (by omega) _ (y 1200 (by omega)).1 (y 1200 (by omega)).2 hv01)
              · refine zOk_fr c2 ?_
                by_cases c3 : a3 = 3
                · subst c3
                  exact zOk_tr rfl (e88 3 1600 _ (by omega) m3 (by omega) _ (y 1600 (by omega)).1 (y 1600 (by omega)).2 hv01)
                · refine zOk_fr c3 ?_
                  by_cases c4 : a3 = 4
                  · subst c4
                    exact zOk_tr rfl (e88 4 2000 _ (by omega) m4 (by omega) _ (y 2000 (by omega)).1 (y 2000 (by omega)).2 hv01)
                  · have c5 : a3 = 5 := by omega
                    subst c5
                    exact zOk_fr c4 (zOk_tr rfl (e88 5 2400 _ (by omega) m5 (by omega) _ (y 2400 (by omega)).1 (y 2400 (by omega)).2 hv01))
      · rw [if_neg (show ¬ (0 ≤ a3 ∧ a3 ≤ 6) by omega)]
        exact zOk_fl k6 (zOk_gr (by decide) (zOk_tr rfl (zOk_s rfl hw)))
  · rw [if_neg hk, if_neg hk]
    exact zOk_gl (by decide) (zOk_tl (by decide) (zOk_gr (by decide) (zOk_tr rfl (zOk_s rfl hw))))
theorem st_key (N : Nat) (hN : 6000 < N) {K : Bool} {c : Int} {MX MM : zM} (h : zInv K c MX MM) (hc : c ≤ 1899990000) {a1 a2 : Int} (h1 : zR a1) (h2 : zR a2) : zOk K (c + 130000) (fX7_key N a1 a2 MX) (fX8_key N a1 a2 MM) := by
  obtain ⟨⟨Q, hs⟩, hv⟩ := id h.1
  have hw := h.weak (c' := c + 130000) (by omega)
  unfold fX7_key fX8_key
  refine zOk_gl h1 (zOk_cr (e_in N h1 (by decide) (by decide)) ?_)
  by_cases k1 : a1 < 1
  · rw [if_neg (show ¬ (1 ≤ a1 ∧ a1 ≤ 4) by omega)]
    exact zOk_tl k1 (zOk_gr (by decide) (zOk_tr rfl (zOk_s rfl hw)))
  · refine zOk_fl k1 ?_
    by_cases k5 : 5 ≤ a1
    · rw [if_neg (show ¬ (1 ≤ a1 ∧ a1 ≤ 4) by omega)]
      exact zOk_tl k5 (zOk_gr (by decide) (zOk_tr rfl (zOk_s rfl hw)))
    · rw [if_pos (show (1 ≤ a1 ∧ a1 ≤ 4) by omega)]
      refine zOk_fl k5 (zOk_gl h2 (zOk_gr (by decide) (zOk_fr (by decide) (zOk_gr h2 ?_))))
      by_cases k0 : 0 ≤ a2
      · refine zOk_tl k0 (zOk_fr (by omega) ?_)
        obtain ⟨w, rfl⟩ : ∃ w : Nat, a1 = (w : Int) := ⟨a1.toNat, by omega⟩
        have hR : zQR (zpk is_4n5 MX) w (Q w) := (hs.ci.1.1 w (by omega) (by omega)).1
        refine zOk_2l (zQ_keyAt N (by omega) (by omega) hR a2 ⟨k0, h2.2⟩) (zOk_2r (m_keyAt N (by omega) (by omega) hs.mi (by omega) (by omega) ⟨k0, h2.2⟩) (zOk_ll ?_))
        rw [zpt_zpk]
        exact zOk_s rfl hw
      · exact zOk_fl k0 (zOk_tr (by omega) (zOk_s rfl hw))
theorem st_gone (N : Nat) {K : Bool} {c : Int} {MX MM : zM} (h : zInv K c MX MM) (hc : c ≤ 1899990000) {a1 : Int} (h1 : zR a1) : zOk K (c + 130000) (fX7_gone N a1 MX) (fX8_gone N a1 MM) := by
  obtain ⟨⟨Q, hs⟩, hv⟩ := id h.1
  have hw := h.weak (c' := c + 130000) (by omega)
  obtain ⟨g1, g2, g3, g4⟩ := hs.eg
  have g1 : MM 1 3214 = MX 17 1 := g1
  have g2 : 0 ≤ MX 17 1 := g2
  have g3 : MX 17 1 ≤ c := g3
  unfold fX7_gone fX8_gone
  refine zOk_gl h1 (zOk_gr h1 ?_)
  by_cases k0 : 0 ≤ a1
  · have hz : zmin 20 (MX 17 1) = if MX 17 1 ≤ 20 then MX 17 1 else 20 := by
      unfold zmin
      split <;> split <;> omega
    refine zOk_tl k0 (zOk_tr k0 (zOk_ll (zOk_gl (by constructor <;> omega) (zOk_gl (by rw [hz]; split <;> constructor <;> omega) ?_))))
    rw [hz]
    by_cases k20 : 20 ≤ a1
    · exact zOk_tl (by split <;> omega) (zOk_tr k20 (zOk_s rfl hw))
    · refine zOk_fr k20 (zOk_gr (by constructor <;> omega) ?_)
      by_cases kt : MX 17 1 ≤ a1
      · exact zOk_tl (by split <;> omega) (zOk_tr (by omega) (zOk_s rfl hw))
      · refine zOk_fl (by split <;> omega) (zOk_fr (by omega) (zOk_gr (by omega) ?_))
        have ea : fX1_at N (MX 17 1 - 1 - a1) (zpk is_17n2 MX) = some (MX 18 ((MX 17 1 - 1 - a1) % 400).toNat, zpk is_17n2 MX) := by
          unfold fX1_at zc zg
          rw [f_floorMod N (by omega)]
          dsimp only
          rw [if_pos (by omega)]
          rfl
        refine zOk_2l ea (zOk_ll ?_)
        rw [zpt_zpk]
        refine zOk_s ?_ hw
        obtain ⟨i, rfl⟩ : ∃ i : Nat, a1 = (i : Int) := ⟨a1.toNat, by omega⟩
        rw [show ((3216 : Int) + (i : Int)).toNat = 3216 + i by omega, g4 i (by omega) (by show (i : Int) < MX 17 1; omega)]
        rfl
  · exact zOk_fl k0 (zOk_fr k0 (zOk_s rfl hw))
theorem st_count (N : Nat) (hN : 6000 < N) {K : Bool} {c : Int} {MX MM : zM} (h : zInv K c MX MM) {a1 : Int} (h1 : zR a1) : zOk K (c + 130000) (fX7_count N a1 MX) (fX8_count N a1 MM) := by
  obtain ⟨⟨Q, hs⟩, hv⟩ := id h.1
  have hw := h.weak (c' := c + 130000) (by omega)
  obtain ⟨-, ⟨t1, -, -⟩, ⟨n, -, n2, n3, -⟩, -⟩ := h.2
  have sz : ∀ w : Nat, w < 4 → zOk K (c + 130000) (sX7_count_44 N (w : Int) MX) (sX8_count_44 N (w : Int) MM) := by
    intro w hw4
    unfold sX7_count_44 sX8_count_44
    refine zOk_gl (by omega) ?_
    rw [show (w : Int) + 1 = ((w + 1 : Nat) : Int) by omega]
    refine zOk_2r (m_many N (by omega) hs.mi (w := w + 1) (by omega) (by omega)) (zOk_s ?_ hw)
    have := zCI_size hs.ci (w := w + 1) (by omega) (by omega)
    exact this
  unfold fX7_count fX8_count
  refine zOk_gl h1 (zOk_gr h1 ?_)
  by_cases k0 : a1 < 0 ∨ 6 < a1
  · exact zOk_tl k0 (zOk_tr k0 (zOk_s rfl hw))
  · refine zOk_fl k0 (zOk_fr k0 ?_)
    obtain e | e | e | e | e | e | e : a1 = 0 ∨ a1 = 1 ∨ a1 = 2 ∨ a1 = 3 ∨ a1 = 4 ∨ a1 = 5 ∨ a1 = 6 := by omega
    · subst e; exact zOk_tl rfl (zOk_tr rfl (sz 0 (by omega)))
    · subst e; exact zOk_fl (by decide) (zOk_fr (by decide) (zOk_tl rfl (zOk_tr rfl (sz 1 (by omega)))))
    · subst e; exact zOk_fl (by decide) (zOk_fr (by decide) (zOk_fl (by decide) (zOk_fr (by decide) (zOk_tl rfl (zOk_tr rfl (sz 2 (by omega)))))))
    · subst e; exact zOk_fl (by decide) (zOk_fr (by decide) (zOk_fl (by decide) (zOk_fr (by decide) (zOk_fl (by decide) (zOk_fr (by decide) (zOk_tl rfl (zOk_tr rfl (sz 3 (by omega)))))))))
    · subst e; exact zOk_fl (by decide) (zOk_fr (by decide) (zOk_fl (by decide) (zOk_fr (by decide) (zOk_fl (by decide) (zOk_fr (by decide) (zOk_fl (by decide) (zOk_fr (by decide) (zOk_tl rfl (zOk_tr rfl (zOk_s (by rw [n2, n3]) hw))))))))))
    · subst e; exact zOk_fl (by decide) (zOk_fr (by decide) (zOk_fl (by decide) (zOk_fr (by decide) (zOk_fl (by decide) (zOk_fr (by decide) (zOk_fl (by decide) (zOk_fr (by decide) (zOk_fl (by decide) (zOk_fr (by decide) (zOk_tl rfl (zOk_tr rfl (zOk_s hs.eb.1.symm hw))))))))))))
    · subst e; exact zOk_fl (by decide) (zOk_fr (by decide) (zOk_fl (by decide) (zOk_fr (by decide) (zOk_fl (by decide) (zOk_fr (by decide) (zOk_fl (by decide) (zOk_fr (by decide) (zOk_fl (by decide) (zOk_fr (by decide) (zOk_fl (by decide) (zOk_fr (by decide) (zOk_tl rfl (zOk_tr rfl (zOk_s t1 hw))))))))))))))
