/-! the store and the reference's row, side by side -/
def zEf (S : zM) (g : Nat → Int) : Prop := ∀ k, k < 400 → g k = S 9 k ∧ g (400 + k) = S 15 k ∧ g (800 + k) = S 10 k ∧ g (1200 + k) = S 11 k ∧ g (1600 + k) = S 12 k ∧ g (2000 + k) = S 13 k ∧ g (2400 + k) = S 14 k
def zEs (S : zM) (g : Nat → Int) : Prop := (g 3200 = S 1 0 ∧ g 3201 = S 1 1 ∧ g 3202 = S 1 2 ∧ g 3203 = S 1 3) ∧ g 3209 = S 2 0 ∧ g 3210 = S 2 1 ∧ g 3211 = S 2 2 ∧ g 3212 = S 2 3 ∧ g 3213 = S 2 4
def zEg (c : Int) (S : zM) (g : Nat → Int) : Prop := g 3214 = S 16 1 ∧ 0 ≤ S 16 1 ∧ S 16 1 ≤ c ∧ ∀ i : Nat, i < 20 → (i : Int) < S 16 1 → g (3216 + i) = S 17 ((S 16 1 - 1 - i) % 400).toNat
def zEb (S : zM) (g : Nat → Int) : Prop := g 3236 = S 18 2 ∧ 0 ≤ S 18 2 ∧ S 18 2 ≤ 8 ∧ ∀ i : Nat, (i : Int) < S 18 2 → g (3237 + 2 * i) = S 19 i ∧ g (3238 + 2 * i) = S 20 i ∧ 0 ≤ S 19 i ∧ S 19 i < 400 ∧ 0 ≤ S 20 i ∧ S 20 i ≤ 4
def zRf (S : zM) : Prop := ∀ k, k < 400 → (0 ≤ S 10 k ∧ S 10 k ≤ 9) ∧ (0 ≤ S 11 k ∧ S 11 k ≤ 99) ∧ (0 ≤ S 12 k ∧ S 12 k ≤ 99) ∧ (0 ≤ S 13 k ∧ S 13 k ≤ 9) ∧ (S 14 k = 0 ∨ S 14 k = 1)
def zRs (S : zM) : Prop := (0 ≤ S 1 0 ∧ S 1 0 ≤ 99) ∧ (0 ≤ S 1 1 ∧ S 1 1 ≤ 99) ∧ (1 ≤ S 1 2 ∧ S 1 2 ≤ 9) ∧ (0 ≤ S 1 3 ∧ S 1 3 ≤ 9)
/-- what the reference notes of those that go, since there were b -/
def zGg (e : Bool) (b : Int) (Q : Nat → List Nat) (S M : zM) : Prop := (0 ≤ M 0 5 ∧ M 0 5 ≤ 400) ∧ (e = true → 0 ≤ b ∧ M 0 5 = S 16 1 - b ∧ (S 16 1 - b + (Q 1).length + (Q 2).length ≤ 400) ∧ ∀ j : Nat, (j : Int) < S 16 1 - b → M 4 j = S 17 ((b + j) % 400).toNat)
def zSim (e : Bool) (b c : Int) (Q : Nat → List Nat) (S M : zM) : Prop := zCI Q S ∧ zMI c Q (M 1) ∧ zEf S (M 1) ∧ zEs S (M 1) ∧ zEg c S (M 1) ∧ zEb S (M 1) ∧ zRf S ∧ zRs S ∧ zGg e b Q S M
section SIMP
variable {e : Bool} {b c : Int} {Q : Nat → List Nat} {S M : zM}
theorem zSim.ci (h : zSim e b c Q S M) : zCI Q S := h.1
theorem zSim.mi (h : zSim e b c Q S M) : zMI c Q (M 1) := h.2.1
theorem zSim.ef (h : zSim e b c Q S M) : zEf S (M 1) := h.2.2.1
theorem zSim.es (h : zSim e b c Q S M) : zEs S (M 1) := h.2.2.2.1
theorem zSim.eg (h : zSim e b c Q S M) : zEg c S (M 1) := h.2.2.2.2.1
theorem zSim.eb (h : zSim e b c Q S M) : zEb S (M 1) := h.2.2.2.2.2.1
theorem zSim.rf (h : zSim e b c Q S M) : zRf S := h.2.2.2.2.2.2.1
theorem zSim.rs (h : zSim e b c Q S M) : zRs S := h.2.2.2.2.2.2.2.1
theorem zSim.gg (h : zSim e b c Q S M) : zGg e b Q S M := h.2.2.2.2.2.2.2.2
theorem zSim.weak {c' : Int} (h : zSim e b c Q S M) (hc : c ≤ c') : zSim e b c' Q S M := by
  obtain ⟨h1, ⟨a1, a2, a3, a4, a5⟩, h3, h4, ⟨b1, b2, b3, b4⟩, h6⟩ := h
  exact ⟨h1, ⟨a1, a2, a3, a4, by omega⟩, h3, h4, ⟨b1, b2, by omega, b4⟩, h6⟩
end SIMP
/-- the places of the reference's row that a change of facts, settings or tallies leaves -/
def zstill (g g' : Nat → Int) : Prop := (∀ k, k < 400 → g' k = g k ∧ g' (800 + k) = g (800 + k) ∧ g' (2800 + k) = g (2800 + k)) ∧ (∀ w, w ≤ 4 → g' (3204 + w) = g (3204 + w)) ∧ g' 3215 = g 3215
theorem zMI_still {c : Int} {Q : Nat → List Nat} {g g' : Nat → Int} (h : zMI c Q g) (hs : zstill g g') : zMI c Q g' := by
  obtain ⟨a1, a2, a3, a4, a5⟩ := h
  obtain ⟨s1, s2, s3⟩ := hs
  refine ⟨fun w hw hw4 => ?_, fun k hk => ?_, fun k hk => ?_, by rw [s3]; exact a4, by rw [s3]; exact a5⟩
  · obtain ⟨q1, q2, q3, q4⟩ := a1 w hw hw4
    refine ⟨?_, fun k => ?_, ?_, q4⟩
    · rw [s2 w hw4, q1]
      exact zsm_congr (fun k hk => ((s1 k ((q2 k).mp hk).1).2.1).symm)
    · rw [q2 k]
      constructor
      · rintro ⟨p1, p2⟩; exact ⟨p1, by rw [(s1 k p1).1]; exact p2⟩
      · rintro ⟨p1, p2⟩; rw [(s1 k p1).1] at p2; exact ⟨p1, p2⟩
    · refine List.Pairwise.imp_of_mem (R := fun x y => g (2800 + x) < g (2800 + y)) (fun {x y} hx hy hxy => ?_) q3
      rw [(s1 x ((q2 x).mp hx).1).2.2, (s1 y ((q2 y).mp hy).1).2.2]
      exact hxy
  · rw [(s1 k hk).1]; exact a2 k hk
  · rw [(s1 k hk).1, (s1 k hk).2.2, s3]; exact a3 k hk
/-- a change of facts, settings, tallies on both sides -/
theorem zSim_ch {e : Bool} {b c : Int} {Q : Nat → List Nat} {S M S' M' : zM} (h : zSim e b c Q S M) (hS : ∀ r, r ≠ 1 → r ≠ 2 → r ≠ 11 → r ≠ 12 → r ≠ 13 → r ≠ 14 → r ≠ 15 → S' r = S r) (hst : zstill (M 1) (M' 1)) (hM : ∀ r, r ≠ 1 → M' r = M r)
    (hb : ∀ i, 3214 ≤ i → i ≠ 3215 → M' 1 i = M 1 i) (hf : zEf S' (M' 1)) (hs : zEs S' (M' 1)) (hrf : zRf S') (hrs : zRs S') : zSim e b c Q S' M' := by
  refine ⟨zCI_off h.ci (hS 4 (by decide) (by decide) (by decide) (by decide) (by decide) (by decide) (by decide)) (hS 5 (by decide) (by decide) (by decide) (by decide) (by decide) (by decide) (by decide)) (hS 6 (by decide) (by decide) (by decide) (by decide) (by decide) (by decide) (by decide)) (hS 7 (by decide) (by decide) (by decide) (by decide) (by decide) (by decide) (by decide)) (hS 9 (by decide) (by decide) (by decide) (by decide) (by decide) (by decide) (by decide)) (hS 10 (by decide) (by decide) (by decide) (by decide) (by decide) (by decide) (by decide)), zMI_still h.mi hst, hf, hs, ?_, ?_, hrf, hrs, ?_⟩
  · have e16 := hS 16 (by decide) (by decide) (by decide) (by decide) (by decide) (by decide) (by decide)
    have e17 := hS 17 (by decide) (by decide) (by decide) (by decide) (by decide) (by decide) (by decide)
    obtain ⟨b1, b2, b3, b4⟩ := h.eg
    refine ⟨by rw [e16, hb 3214 (by omega) (by omega)]; exact b1, by rw [e16]; exact b2, by rw [e16]; exact b3, fun i hi hi2 => ?_⟩
    rw [e16] at hi2 ⊢
    rw [e17, hb (3216 + i) (by omega) (by omega)]
    exact b4 i hi hi2
  · have e18 := hS 18 (by decide) (by decide) (by decide) (by decide) (by decide) (by decide) (by decide)
    have e19 := hS 19 (by decide) (by decide) (by decide) (by decide) (by decide) (by decide) (by decide)
    have e20 := hS 20 (by decide) (by decide) (by decide) (by decide) (by decide) (by decide) (by decide)
    obtain ⟨b1, b2, b3, b4⟩ := h.eb
    refine ⟨by rw [e18, hb 3236 (by omega) (by omega)]; exact b1, by rw [e18]; exact b2, by rw [e18]; exact b3, fun i hi => ?_⟩
    rw [e18] at hi
    rw [e19, e20, hb (3237 + 2 * i) (by omega) (by omega), hb (3238 + 2 * i) (by omega) (by omega)]
    exact b4 i hi
  · have e16 := hS 16 (by decide) (by decide) (by decide) (by decide) (by decide) (by decide) (by decide)
    have e17 := hS 17 (by decide) (by decide) (by decide) (by decide) (by decide) (by decide) (by decide)
    unfold zGg
    rw [e16, e17, hM 0 (by decide), hM 4 (by decide)]
    exact h.gg
theorem zz (o k : Nat) : ((o : Nat) : Int) + (k : Int) = ((o + k : Nat) : Int) := by omega
/-- a tally -/
theorem zSim_tally {e : Bool} {b c : Int} {Q : Nat → List Nat} {S M : zM} (h : zSim e b c Q S M) {i : Nat} (hi : i < 5) (v : Int) : zSim e b c Q (zup S 2 i v) (zup M 1 (3209 + i) v) := by
  have hm : ∀ j, zup M 1 (3209 + i) v 1 j = if j = 3209 + i then v else M 1 j := fun j => zup_self M 1 (3209 + i) v j
  refine zSim_ch h (fun r _ h2 _ _ _ _ _ => zup_other h2) ⟨fun k hk => ⟨?_, ?_, ?_⟩, fun w hw => ?_, ?_⟩ (fun r hr => zup_other hr) (fun j hj _ => ?_) (fun k hk => ?_) ?_ ?_ ?_
  · rw [hm, if_neg (by omega)]
  · rw [hm, if_neg (by omega)]
  · rw [hm, if_neg (by omega)]
  · rw [hm, if_neg (by omega)]
  · rw [hm, if_neg (by omega)]
  · rw [hm, if_neg (by omega)]
  · obtain ⟨q1, q2, q3, q4, q5, q6, q7⟩ := h.ef k hk
    rw [hm, if_neg (by omega), hm, if_neg (by omega), hm, if_neg (by omega), hm, if_neg (by omega), hm, if_neg (by omega), hm, if_neg (by omega), hm, if_neg (by omega)]
    rw [zup_other (by decide), zup_other (by decide), zup_other (by decide), zup_other (by decide), zup_other (by decide), zup_other (by decide), zup_other (by decide)]
    exact ⟨q1, q2, q3, q4, q5, q6, q7⟩
  · obtain ⟨⟨q1, q2, q3, q4⟩, p0, p1, p2, p3, p4⟩ := h.es
    have ht : ∀ j, j < 5 → M 1 (3209 + j) = S 2 j → zup M 1 (3209 + i) v 1 (3209 + j) = zup S 2 i v 2 j := by
      intro j hj hq
      rw [hm, zup_self]
      by_cases hji : j = i
      · subst hji; rw [if_pos rfl, if_pos rfl]
      · rw [if_neg (by omega), if_neg hji]; exact hq
    refine ⟨⟨?_, ?_, ?_, ?_⟩, ht 0 (by omega) p0, ht 1 (by omega) p1, ht 2 (by omega) p2, ht 3 (by omega) p3, ht 4 (by omega) p4⟩
    · rw [hm, if_neg (by omega), zup_other (by decide)]; exact q1
    · rw [hm, if_neg (by omega), zup_other (by decide)]; exact q2
    · rw [hm, if_neg (by omega), zup_other (by decide)]; exact q3
    · rw [hm, if_neg (by omega), zup_other (by decide)]; exact q4
  · exact fun k hk => h.rf k hk
  · exact h.rs
/-- a setting -/
theorem zSim_setg {e : Bool} {b c : Int} {Q : Nat → List Nat} {S M : zM} (h : zSim e b c Q S M) {i : Nat} (hi : i < 4) (v : Int) (hr : zRs (zup S 1 i v)) : zSim e b c Q (zup S 1 i v) (zup M 1 (3200 + i) v) := by
  have hm : ∀ j, zup M 1 (3200 + i) v 1 j = if j = 3200 + i then v else M 1 j := fun j => zup_self M 1 (3200 + i) v j
  refine zSim_ch h (fun r h1 _ _ _ _ _ _ => zup_other h1) ⟨fun k hk => ⟨?_, ?_, ?_⟩, fun w hw => ?_, ?_⟩ (fun r hr => zup_other hr) (fun j hj _ => ?_) (fun k hk => ?_) ?_ ?_ hr
  · rw [hm, if_neg (by omega)]
  · rw [hm, if_neg (by omega)]
  · rw [hm, if_neg (by omega)]
  · rw [hm, if_neg (by omega)]
  · rw [hm, if_neg (by omega)]
  · rw [hm, if_neg (by omega)]
  · obtain ⟨q1, q2, q3, q4, q5, q6, q7⟩ := h.ef k hk
    rw [hm, if_neg (by omega), hm, if_neg (by omega), hm, if_neg (by omega), hm, if_neg (by omega), hm, if_neg (by omega), hm, if_neg (by omega), hm, if_neg (by omega)]
    rw [zup_other (by decide), zup_other (by decide), zup_other (by decide), zup_other (by decide), zup_other (by decide), zup_other (by decide), zup_other (by decide)]
    exact ⟨q1, q2, q3, q4, q5, q6, q7⟩
  · obtain ⟨⟨q1, q2, q3, q4⟩, p0, p1, p2, p3, p4⟩ := h.es
    have ht : ∀ j, j < 4 → M 1 (3200 + j) = S 1 j → zup M 1 (3200 + i) v 1 (3200 + j) = zup S 1 i v 1 j := by
      intro j hj hq
      rw [hm, zup_self]
      by_cases hji : j = i
      · subst hji; rw [if_pos rfl, if_pos rfl]
      · rw [if_neg (by omega), if_neg hji]; exact hq
    refine ⟨⟨ht 0 (by omega) q1, ht 1 (by omega) q2, ht 2 (by omega) q3, ht 3 (by omega) q4⟩, ?_, ?_, ?_, ?_, ?_⟩
    · rw [hm, if_neg (by omega), zup_other (by decide)]; exact p0
    · rw [hm, if_neg (by omega), zup_other (by decide)]; exact p1
    · rw [hm, if_neg (by omega), zup_other (by decide)]; exact p2
    · rw [hm, if_neg (by omega), zup_other (by decide)]; exact p3
    · rw [hm, if_neg (by omega), zup_other (by decide)]; exact p4
  · exact fun k hk => h.rf k hk
/-- a fact: its row in the store, its place in the reference's row -/
theorem zSim_fact {e : Bool} {b c : Int} {Q : Nat → List Nat} {S M : zM} (h : zSim e b c Q S M) {r o k : Nat} (hk : k < 400) (v : Int) (hro : (r = 15 ∧ o = 400) ∨ (r = 11 ∧ o = 1200) ∨ (r = 12 ∧ o = 1600) ∨ (r = 13 ∧ o = 2000) ∨ (r = 14 ∧ o = 2400)) (hr : zRf (zup S r k v)) : zSim e b c Q (zup S r k v) (zup M 1 (o + k) v) := by
  have hm : ∀ j, zup M 1 (o + k) v 1 j = if j = o + k then v else M 1 j := fun j => zup_self M 1 (o + k) v j
  have hro2 : (r = 15 ∨ r = 11 ∨ r = 12 ∨ r = 13 ∨ r = 14) ∧ 400 ≤ o ∧ o ≤ 2400 ∧ o ≠ 800 := by omega
  refine zSim_ch h (fun r' _ _ h11 h12 h13 h14 h15 => zup_other (by omega)) ⟨fun k' hk' => ⟨?_, ?_, ?_⟩, fun w hw => ?_, ?_⟩ (fun r hr => zup_other hr) (fun j hj _ => ?_) (fun j hj => ?_) ?_ hr ?_
  · rw [hm, if_neg (by omega)]
  · rw [hm, if_neg (by omega)]
  · rw [hm, if_neg (by omega)]
  · rw [hm, if_neg (by omega)]
  · rw [hm, if_neg (by omega)]
  · rw [hm, if_neg (by omega)]
  · obtain ⟨q1, q2, q3, q4, q5, q6, q7⟩ := h.ef j hj
    have ht : ∀ r' o', M 1 (o' + j) = S r' j → (r' = r ↔ o' = o) → (o' = o ∨ o' + 400 ≤ o ∨ o + 400 ≤ o') → zup M 1 (o + k) v 1 (o' + j) = zup S r k v r' j := by
      intro r' o' hq hrr hoo
      rw [hm]
      by_cases hr' : r' = r
      · subst hr'
        have := hrr.mp rfl
        subst this
        rw [zup_self]
        by_cases hjk : j = k
        · subst hjk; rw [if_pos rfl, if_pos rfl]
        · rw [if_neg (by omega), if_neg hjk]; exact hq
      · rw [zup_other hr', if_neg (by have : ¬ o' = o := fun q => hr' (hrr.mpr q); omega)]
        exact hq
    refine ⟨?_, ht 15 400 q2 (by omega) (by omega), ht 10 800 q3 (by omega) (by omega), ht 11 1200 q4 (by omega) (by omega), ht 12 1600 q5 (by omega) (by omega), ht 13 2000 q6 (by omega) (by omega), ht 14 2400 q7 (by omega) (by omega)⟩
    rw [hm, if_neg (by omega), zup_other (by omega)]
    exact q1
  · obtain ⟨⟨q1, q2, q3, q4⟩, p0, p1, p2, p3, p4⟩ := h.es
    rw [zEs, hm, if_neg (by omega), hm, if_neg (by omega), hm, if_neg (by omega), hm, if_neg (by omega), hm, if_neg (by omega), hm, if_neg (by omega), hm, if_neg (by omega), hm, if_neg (by omega), hm, if_neg (by omega), zup_other (by omega), zup_other (by omega)]
    exact ⟨⟨q1, q2, q3, q4⟩, p0, p1, p2, p3, p4⟩
  · unfold zRs
    rw [zup_other (by omega)]
    exact h.rs
theorem zmv_len {Q : Nat → List Nat} {k t w : Nat} (hn : (Q w).Nodup) : ((zmv Q k t w).length : Int) = (Q w).length - (if k ∈ Q w then 1 else 0) + (if w = t then 1 else 0) := by
  unfold zmv
  rw [List.length_append]
  have h2 : ((if w = t then [k] else []) : List Nat).length = if w = t then 1 else 0 := by
    by_cases hw : w = t
    · rw [if_pos hw, if_pos hw]; rfl
    · rw [if_neg hw, if_neg hw]; rfl
  rw [h2]
  by_cases hk : k ∈ Q w
  · obtain ⟨l1, l2, hl, hf⟩ := zfil hn hk
    rw [hf, if_pos hk, hl]
    simp
    split <;> omega
  · rw [zfil_not hk, if_neg hk]
    split <;> omega
/-- a key goes somewhere, on both sides -/
theorem zSim_mv (N : Nat) {e : Bool} {b c : Int} {Q : Nat → List Nat} {S M : zM} (h : zSim e b c Q S M) {k t : Nat} (hk : k < 400) (ht : t ≤ 4) (he : e = true → t = 0 ∨ 3 ≤ t ∨ S 9 k = 1 ∨ S 9 k = 2) :
    ∃ S' M', fX3_move N (k : Int) (t : Int) S = some S' ∧ fX8_goes N (k : Int) (t : Int) M = some M' ∧ zSim e b (c + 1) (zmv Q k t) S' M' ∧ S' 9 = zu (S 9) k t ∧ zoff S S' ∧ ∀ r, r ≠ 1 → M' r = M r := by
  obtain ⟨S', s1, s2, s3, s4⟩ := s_move N h.ci hk ht
  obtain ⟨M', m1, m2, ⟨m3, m5⟩, m4⟩ := m_goes N h.mi hk ht
  refine ⟨S', M', s1, m1, ⟨s2, m2, ?_, ?_, ?_, ?_, ?_, ?_, ?_⟩, s3, s4, m4⟩
  · intro j hj
    obtain ⟨q1, q2, q3, q4, q5, q6, q7⟩ := h.ef j hj
    rw [s4 15 (by decide) (by decide), s4 10 (by decide) (by decide), s4 11 (by decide) (by decide), s4 12 (by decide) (by decide), s4 13 (by decide) (by decide), s4 14 (by decide) (by decide), s3]
    rw [m5 (400 + j) (by omega) (by omega) (by omega) (by omega), m5 (800 + j) (by omega) (by omega) (by omega) (by omega), m5 (1200 + j) (by omega) (by omega) (by omega) (by omega), m5 (1600 + j) (by omega) (by omega) (by omega) (by omega), m5 (2000 + j) (by omega) (by omega) (by omega) (by omega), m5 (2400 + j) (by omega) (by omega) (by omega) (by omega)]
    refine ⟨?_, q2, q3, q4, q5, q6, q7⟩
    unfold zu
    by_cases hjk : j = k
    · subst hjk; rw [if_pos rfl]; exact m3
    · rw [if_neg hjk, m5 j hjk (by omega) (by omega) (by omega)]; exact q1
  · unfold zEs
    rw [s4 1 (by decide) (by decide), s4 2 (by decide) (by decide), m5 3200 (by omega) (by omega) (by omega) (by omega), m5 3201 (by omega) (by omega) (by omega) (by omega), m5 3202 (by omega) (by omega) (by omega) (by omega), m5 3203 (by omega) (by omega) (by omega) (by omega), m5 3209 (by omega) (by omega) (by omega) (by omega), m5 3210 (by omega) (by omega) (by omega) (by omega), m5 3211 (by omega) (by omega) (by omega) (by omega), m5 3212 (by omega) (by omega) (by omega) (by omega), m5 3213 (by omega) (by omega) (by omega) (by omega)]
    exact h.es
  · obtain ⟨b1, b2, b3, b4⟩ := h.eg
    refine ⟨?_, ?_, ?_, fun i hi hi2 => ?_⟩
    · rw [s4 16 (by decide) (by decide), m5 3214 (by omega) (by omega) (by omega) (by omega)]; exact b1
    · rw [s4 16 (by decide) (by decide)]; exact b2
    · rw [s4 16 (by decide) (by decide)]; omega
    · rw [s4 16 (by decide) (by decide)] at hi2 ⊢
      rw [s4 17 (by decide) (by decide), m5 (3216 + i) (by omega) (by omega) (by omega) (by omega)]
      exact b4 i hi hi2
  · obtain ⟨b1, b2, b3, b4⟩ := h.eb
    unfold zEb
    rw [s4 18 (by decide) (by decide), s4 19 (by decide) (by decide), s4 20 (by decide) (by decide), m5 3236 (by omega) (by omega) (by omega) (by omega)]
    refine ⟨b1, b2, b3, fun i hi => ?_⟩
    rw [m5 (3237 + 2 * i) (by omega) (by omega) (by omega) (by omega), m5 (3238 + 2 * i) (by omega) (by omega) (by omega) (by omega)]
    exact b4 i hi
  · unfold zRf
    rw [s4 10 (by decide) (by decide), s4 11 (by decide) (by decide), s4 12 (by decide) (by decide), s4 13 (by decide) (by decide), s4 14 (by decide) (by decide)]
    exact h.rf
  · unfold zRs
    rw [s4 1 (by decide) (by decide)]
    exact h.rs
  · unfold zGg
    rw [s4 16 (by decide) (by decide), s4 17 (by decide) (by decide), m4 0 (by decide), m4 4 (by decide)]
    refine ⟨h.gg.1, fun h1 => ?_⟩
    obtain ⟨g1, g2, g3, g4⟩ := h.gg.2 h1
    refine ⟨g1, g2, ?_, g4⟩
    have n1 := zmv_len (Q := Q) (k := k) (t := t) (zCI_nd h.ci (w := 1) (by omega) (by omega))
    have n2 := zmv_len (Q := Q) (k := k) (t := t) (zCI_nd h.ci (w := 2) (by omega) (by omega))
    rw [n1, n2]
    have k1 := zCI_mem h.ci (w := 1) (k := k) (by omega) (by omega)
    have k2 := zCI_mem h.ci (w := 2) (k := k) (by omega) (by omega)
    by_cases a1 : k ∈ Q 1
    · by_cases a2 : k ∈ Q 2
      · have := (k1.mp a1).2
        have := (k2.mp a2).2
        omega
      · rw [if_pos a1, if_neg a2]
        split <;> split <;> omega
    · by_cases a2 : k ∈ Q 2
      · rw [if_neg a1, if_pos a2]
        split <;> split <;> omega
      · rw [if_neg a1, if_neg a2]
        have : t = 0 ∨ 3 ≤ t := by
          rcases he h1 with q | q | q | q
          · exact Or.inl q
          · exact Or.inr q
          · exact absurd (k1.mpr ⟨hk, q⟩) a1
          · exact absurd (k2.mpr ⟨hk, q⟩) a2
        rw [if_neg (by omega), if_neg (by omega)]
        omega
