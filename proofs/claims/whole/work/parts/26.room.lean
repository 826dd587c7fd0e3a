/-- a key goes for good, on both sides -/
theorem sim_went (N : Nat) (hN : 400 < N) {e : Bool} {b c : Int} {Q : Nat → List Nat} {S M : zM} (h : zSim e b c Q S M) {k t : Nat} (hk : k < 400) (ht : t = 3 ∨ t = 4) (hp : S 14 k = 0) (hk12 : k ∈ Q 1 ∨ k ∈ Q 2) (hc : c ≤ 2000000000) :
    ∃ S1 L M', fX3_move N (k : Int) (t : Int) S = some S1 ∧ fX1_add N (k : Int) (zpk is_16n2 S1) = some L ∧ fX8_went N (k : Int) (t : Int) M = some M' ∧ zSim e b (c + 1) (zmv Q k t) (zpt is_16n2 S1 L) M' ∧ zFrS S (zpt is_16n2 S1 L) ∧ zFrM M M' := by
  obtain ⟨S1, M1, m1, m2, m3, m4, m5, m6⟩ := zSim_mv N h (k := k) (t := t) hk (by omega) (fun _ => by omega)
  have e16 : S1 16 = S 16 := m5 16 (by decide) (by decide)
  obtain ⟨L, l1, l2, l3, l4⟩ := s_leave N (S := S1) (k := k) ⟨m3.eg.2.1, by have := m3.eg.2.2.1; omega⟩
  have hp1 : M1 1 (2400 + k) = 0 := by rw [(m3.ef k hk).2.2.2.2.2.2, m5 14 (by decide) (by decide)]; exact hp
  obtain ⟨M', r1, r2, r3, r4, r5, r6⟩ := m_went20 N hk 19 N (zup M1 1 (2400 + k) 0) (by omega) (by omega) (by rw [zup_other (by decide)]; exact m3.gg.1)
  have hg : ∀ j, M' 1 j = if 3216 ≤ j ∧ j ≤ 3235 then (if j = 3216 then (k : Int) else M1 1 (j - 1)) else if j = 3214 then M1 1 3214 + 1 else M1 1 j := by
    intro j
    have hz : ∀ i, zup M1 1 (2400 + k) 0 1 i = M1 1 i := fun i => by
      rw [zup_self]
      by_cases hi : i = 2400 + k
      · rw [if_pos hi, hi, hp1]
      · rw [if_neg hi]
    rw [r2 j, hz, hz, hz]
  have rest : ∀ j, ¬ (3216 ≤ j ∧ j ≤ 3235) → j ≠ 3214 → M' 1 j = M1 1 j := fun j h1 h2 => by rw [hg, if_neg h1, if_neg h2]
  have q12 : ∀ r, r ≠ 16 → r ≠ 17 → zpt is_16n2 S1 L r = S1 r := l4
  refine ⟨S1, L, M', m1, l1, ?_, ⟨?_, ?_, ?_, ?_, ?_, ?_, ?_, ?_, ?_⟩, ?_, ?_⟩
  · unfold fX8_went zc zg zl
    rw [m2]
    dsimp only
    rw [show ((2400 : Int) + (k : Int)).toNat = 2400 + k by omega, if_pos (by omega)]
    exact r1
  · exact zCI_off m3.ci (q12 4 (by decide) (by decide)) (q12 5 (by decide) (by decide)) (q12 6 (by decide) (by decide)) (q12 7 (by decide) (by decide)) (q12 9 (by decide) (by decide)) (q12 10 (by decide) (by decide))
  · refine zMI_still m3.mi ⟨fun j hj => ⟨rest j (by omega) (by omega), rest (800 + j) (by omega) (by omega), rest (2800 + j) (by omega) (by omega)⟩, fun w hw => rest (3204 + w) (by omega) (by omega), rest 3215 (by omega) (by omega)⟩
  · intro j hj
    rw [rest j (by omega) (by omega), rest (400 + j) (by omega) (by omega), rest (800 + j) (by omega) (by omega), rest (1200 + j) (by omega) (by omega), rest (1600 + j) (by omega) (by omega), rest (2000 + j) (by omega) (by omega), rest (2400 + j) (by omega) (by omega)]
    rw [q12 9 (by decide) (by decide), q12 15 (by decide) (by decide), q12 10 (by decide) (by decide), q12 11 (by decide) (by decide), q12 12 (by decide) (by decide), q12 13 (by decide) (by decide), q12 14 (by decide) (by decide)]
    exact m3.ef j hj
  · unfold zEs
    rw [rest 3200 (by omega) (by omega), rest 3201 (by omega) (by omega), rest 3202 (by omega) (by omega), rest 3203 (by omega) (by omega), rest 3209 (by omega) (by omega), rest 3210 (by omega) (by omega), rest 3211 (by omega) (by omega), rest 3212 (by omega) (by omega), rest 3213 (by omega) (by omega), q12 1 (by decide) (by decide), q12 2 (by decide) (by decide)]
    exact m3.es
  · obtain ⟨b1, b2, b3, b4⟩ := m3.eg
    have b9 := h.eg.2.2.1
    rw [← e16] at b9
    refine ⟨?_, ?_, ?_, fun i hi hi2 => ?_⟩
    · rw [hg, if_neg (by omega), if_pos rfl, l2, b1]
    · rw [l2]; omega
    · rw [l2]; omega
    · rw [l2] at hi2 ⊢
      rw [hg, if_pos (show 3216 ≤ 3216 + i ∧ 3216 + i ≤ 3235 by omega), l3]
      unfold zu
      by_cases hi0 : i = 0
      · subst hi0
        rw [if_pos rfl, if_pos (by omega)]
      · rw [if_neg (by omega), if_neg (by omega)]
        have := b4 (i - 1) (by omega) (by omega)
        rw [show 3216 + (i - 1) = 3216 + i - 1 by omega] at this
        rw [this, show S1 16 1 - 1 - ((i - 1 : Nat) : Int) = S1 16 1 + 1 - 1 - (i : Int) by omega]
  · obtain ⟨b1, b2, b3, b4⟩ := m3.eb
    unfold zEb
    rw [q12 18 (by decide) (by decide), q12 19 (by decide) (by decide), q12 20 (by decide) (by decide), rest 3236 (by omega) (by omega)]
    refine ⟨b1, b2, b3, fun i hi => ?_⟩
    rw [rest (3237 + 2 * i) (by omega) (by omega), rest (3238 + 2 * i) (by omega) (by omega)]
    exact b4 i hi
  · unfold zRf
    rw [q12 10 (by decide) (by decide), q12 11 (by decide) (by decide), q12 12 (by decide) (by decide), q12 13 (by decide) (by decide), q12 14 (by decide) (by decide)]
    exact m3.rf
  · unfold zRs
    rw [q12 1 (by decide) (by decide)]
    exact m3.rs
  · have g0 := m3.gg.1
    have e05 : zup M1 1 (2400 + k) 0 0 5 = M1 0 5 := by rw [zup_other (by decide)]
    have e4 : zup M1 1 (2400 + k) 0 4 = M1 4 := by rw [zup_other (by decide)]
    rw [e05] at r5 r6
    rw [e4] at r6
    have m05 : M1 0 5 = M 0 5 := by rw [m6 0 (by decide)]
    refine ⟨?_, fun he => ?_⟩
    · rw [r5]
      split <;> omega
    · obtain ⟨g1, g2, g3, g4⟩ := h.gg.2 he
      have hlen : ((zmv Q k t 1).length : Int) + (zmv Q k t 2).length + 1 ≤ (Q 1).length + (Q 2).length := by
        rw [zmv_len (zCI_nd h.ci (w := 1) (by omega) (by omega)), zmv_len (zCI_nd h.ci (w := 2) (by omega) (by omega)), if_neg (show ¬ 1 = t by omega), if_neg (show ¬ 2 = t by omega)]
        rcases hk12 with q | q
        · rw [if_pos q]; split <;> omega
        · rw [if_pos q]; split <;> omega
      have hlt : M1 0 5 < 400 := by rw [m05]; omega
      have hb16 := h.eg.2.1
      rw [if_pos hlt] at r5 r6
      rw [l2, l3, r5, r6, e16, m05]
      refine ⟨g1, by omega, by omega, fun j hj => ?_⟩
      unfold zu
      by_cases hj2 : (j : Int) < S 16 1 - b
      · rw [if_neg (by omega), if_neg (by omega), m6 4 (by decide), m5 17 (by decide) (by decide)]
        exact g4 j hj2
      · rw [if_pos (by omega), if_pos (by rw [show b + (j : Int) = S 16 1 by omega])]
  · exact m5.fr.tr ⟨q12 1 (by decide) (by decide), q12 2 (by decide) (by decide), q12 15 (by decide) (by decide)⟩
  · refine (zFrM.of1 m6).tr ⟨fun r h0 h1 h4 => ?_, fun j hj => ?_⟩
    · rw [r3 r h0 h1 h4, zup_other h1]
    · rw [r4 j hj, zup_other (by decide)]
/-- how long room may be made for: chances of probation, and all that may go -/
def zms (S : zM) (Q : Nat → List Nat) : Int := zsm (fun k => S 13 k + 1) (Q 1) + (Q 2).length
theorem zsm_mv (f : Nat → Int) {Q : Nat → List Nat} {k t w : Nat} (hn : (Q w).Nodup) : zsm f (zmv Q k t w) = zsm f (Q w) - (if k ∈ Q w then f k else 0) + (if w = t then f k else 0) := by
  unfold zmv
  rw [zsm_app]
  have h2 : zsm f (if w = t then [k] else []) = if w = t then f k else 0 := by
    by_cases hw : w = t
    · rw [if_pos hw, if_pos hw, zsm_cons, zsm_nil]; omega
    · rw [if_neg hw, if_neg hw]; rfl
  rw [h2]
  by_cases hk : k ∈ Q w
  · obtain ⟨l1, l2, hl, hf⟩ := zfil hn hk
    rw [hf, if_pos hk, hl, zsm_app, zsm_app, zsm_cons]
    split <;> omega
  · rw [zfil_not hk, if_neg hk]
    split <;> omega
theorem zms_pos {S M : zM} {e : Bool} {b c : Int} {Q : Nat → List Nat} (h : zSim e b c Q S M) : 0 ≤ zms S Q ∧ zms S Q ≤ 4400 := by
  have h1 := zsm_ge (f := fun k => S 13 k + 1) (l := Q 1) (fun k hk => by have := (h.rf k ((zCI_mem h.ci (by omega) (by omega)).mp hk).1).2.2.2.1; show 0 ≤ S 13 k + 1; omega)
  have h2 := zsm_le (f := fun k => S 13 k + 1) (l := Q 1) (m := 10) (fun k hk => by have := (h.rf k ((zCI_mem h.ci (by omega) (by omega)).mp hk).1).2.2.2.1; show S 13 k + 1 ≤ 10; omega)
  have l1 := zCI_len h.ci (w := 1) (by omega) (by omega)
  have l2 := zCI_len h.ci (w := 2) (by omega) (by omega)
  unfold zms
  omega
theorem zSim.emp {S M : zM} {e : Bool} {b c : Int} {Q : Nat → List Nat} (h : zSim e b c Q S M) {w : Nat} (hw : 1 ≤ w) (hw4 : w ≤ 4) (hq : Q w = []) : S 5 w = 0 := by
  rw [zCI_sum h.ci hw hw4, hq]; rfl
theorem sim_room2 (N : Nat) (hN : 400 < N) {e : Bool} {b : Int} : ∀ (m n n' : Nat) (step : Nat) (c : Int) (Q : Nat → List Nat) (S M : zM), zSim e b c Q S M → zms S Q ≤ m → m < n → m < n' → step + m < 1000000 → c + m ≤ 2000000000 →
    ∃ Q' S' M', fX3_makeRoom_2 N n (step : Int) S = some S' ∧ fX8_lets_0 N n' M = some M' ∧ zSim e b (c + m) Q' S' M' ∧ zFrS S S' ∧ zFrM M M' := by
  intro m
  induction m with
  | zero =>
    intro n n' step c Q S M h hm hn hn' hst hc
    obtain ⟨n, rfl⟩ : ∃ m, n = m + 1 := ⟨n - 1, by omega⟩
    obtain ⟨n', rfl⟩ : ∃ m, n' = m + 1 := ⟨n' - 1, by omega⟩
    have h1 : Q 1 = [] := by
      cases hq : Q 1 with
      | nil => rfl
      | cons x l =>
        exfalso
        have hx : x ∈ Q 1 := by rw [hq]; simp
        have hge := zsm_ge (f := fun k => S 13 k + 1) (l := l) (fun k hk => by have := (h.rf k ((zCI_mem h.ci (w := 1) (by omega) (by omega)).mp (by rw [hq]; simp [hk])).1).2.2.2.1; show 0 ≤ S 13 k + 1; omega)
        have hxr := (h.rf x ((zCI_mem h.ci (w := 1) (by omega) (by omega)).mp hx).1).2.2.2.1
        unfold zms at hm
        rw [hq, zsm_cons] at hm
        omega
    have h2 : Q 2 = [] := by
      refine List.eq_nil_of_length_eq_zero ?_
      unfold zms at hm
      rw [h1, zsm_nil] at hm
      omega
    have s1 := h.emp (w := 1) (by omega) (by omega) h1
    have s2 := h.emp (w := 2) (by omega) (by omega) h2
    have m1 : M 1 3205 = S 5 1 := zpmv (S' := S) (M' := M) h (w := 1) (by omega) (by omega)
    have m2 : M 1 3206 = S 5 2 := zpmv (S' := S) (M' := M) h (w := 2) (by omega) (by omega)
    have hb := h.rs.1
    have he : M 1 3200 = S 1 0 := h.es.1.1
    refine ⟨Q, S, M, ?_, ?_, h.weak (by omega), zFrS.rf, zFrM.rf⟩
    · show sX3_makeRoom_2 N _ _ S = _
      unfold sX3_makeRoom_2 zg zi zc2 fX3_weightOfThings
      dsimp only
      rw [s1, s2, if_pos (by constructor <;> omega), if_neg (by omega), if_pos (by decide), if_pos (by constructor <;> omega), if_pos (by omega)]
    · show sX8_lets_0 N _ M = _
      unfold sX8_lets_0 zg zi
      rw [m1, m2, s1, s2, he, if_pos (by decide), if_pos (by constructor <;> omega), if_pos (by omega)]
  | succ m ih =>
    intro n n' step c Q S M h hm hn hn' hst hc
    obtain ⟨n, rfl⟩ : ∃ m, n = m + 1 := ⟨n - 1, by omega⟩
    obtain ⟨n', rfl⟩ : ∃ m, n' = m + 1 := ⟨n' - 1, by omega⟩
    have m1 : M 1 3205 = S 5 1 := zpmv (S' := S) (M' := M) h (w := 1) (by omega) (by omega)
    have m2 : M 1 3206 = S 5 2 := zpmv (S' := S) (M' := M) h (w := 2) (by omega) (by omega)
    have r1 := zsum_r h (w := 1) (by omega) (by omega)
    have r2 := zsum_r h (w := 2) (by omega) (by omega)
    have hb := h.rs.1
    have he : M 1 3200 = S 1 0 := h.es.1.1
    have n1 := zCI_nd h.ci (w := 1) (by omega) (by omega)
    have n2 := zCI_nd h.ci (w := 2) (by omega) (by omega)
    have z1 : zR (S 5 1 + S 5 2) := by constructor <;> omega
    have z0 : zR (S 1 0) := by constructor <;> omega
    show ∃ Q' S' M', sX3_makeRoom_2 N (fun x1 M0 => fX3_makeRoom_2 N n x1 M0) (step : Int) S = some S' ∧ sX8_lets_0 N (fun M0 => fX8_lets_0 N n' M0) M = some M' ∧ _
    unfold sX3_makeRoom_2 sX8_lets_0 zg zi zc2 fX3_weightOfThings zl
    dsimp only
    rw [m1, m2, he, if_pos (show zR (step : Int) by constructor <;> omega), if_neg (show ¬ (1000000 : Int) ≤ (step : Int) by omega), if_pos z1, if_pos z0, if_pos z1, if_pos z0]
    by_cases hle : S 5 1 + S 5 2 ≤ S 1 0
    · rw [if_pos hle, if_pos hle]
      exact ⟨Q, S, M, rfl, rfl, h.weak (by omega), zFrS.rf, zFrM.rf⟩
    · rw [if_neg hle, if_neg hle]
      obtain ⟨f, f1, f2, f3⟩ := zboth N h hN (by omega) (w := 1) (by omega) (by omega)
      have f1 : fX2_oldestLoose N 1 (zpk is_3n5_14n1 S) = _ := f1
      have f2 : fX8_oldest N 1 1 M = _ := f2
      obtain ⟨g, g1, g2, g3⟩ := zboth N h hN (by omega) (w := 2) (by omega) (by omega)
      have g1 : fX2_oldestLoose N 2 (zpk is_3n5_14n1 S) = _ := g1
      have g2 : fX8_oldest N 2 1 M = _ := g2
      rw [f1, f2]
      dsimp only
      rw [zpt_zpk, g1, g2]
      dsimp only
      rw [zpt_zpk]
      -- the way on behind one that goes
      have goes : ∀ (k t : Nat), k < 400 → (t = 3 ∨ t = 4) → S 14 k = 0 → (k ∈ Q 1 ∨ k ∈ Q 2) → ∃ Q' S' M', sX3_makeRoom_101 N (fun x1 M0 => fX3_makeRoom_2 N n x1 M0) (step : Int) (t : Int) (k : Int) S = some S' ∧ zc (fX8_went N (k : Int) (t : Int) M) (fun M15 => fX8_lets_0 N n' M15) = some M' ∧ zSim e b (c + ((m + 1 : Nat) : Int)) Q' S' M' ∧ zFrS S S' ∧ zFrM M M' := by
        intro k t hk ht hp hk12
        obtain ⟨S1, L, M1, w1, w2, w3, w4, w5, w6⟩ := sim_went N hN h hk ht hp hk12 (by omega)
        have hrow : (zpt is_16n2 S1 L) 13 = S 13 := by
          obtain ⟨S2, x1, x2, x3, x4⟩ := s_move N h.ci (k := k) (t := t) hk (by omega)
          rw [w1] at x1
          cases x1
          show S1 13 = S 13
          exact x4 13 (by decide) (by decide)
        have hms : zms (zpt is_16n2 S1 L) (zmv Q k t) ≤ m := by
          unfold zms at hm ⊢
          rw [hrow, zsm_mv _ n1, zmv_len n2, if_neg (show ¬ 1 = t by omega), if_neg (show ¬ 2 = t by omega)]
          have hxr := (h.rf k hk).2.2.2.1
          rcases hk12 with q | q
          · rw [if_pos q]; split <;> omega
          · rw [if_pos q]; split <;> omega
        obtain ⟨Q3, S3, M3, p1, p2, p3, p4, p5⟩ := ih n n' (step + 1) (c + 1) (zmv Q k t) (zpt is_16n2 S1 L) M1 w4 hms (by omega) (by omega) (by omega) (by omega)
        refine ⟨Q3, S3, M3, ?_, ?_, by have e : c + 1 + (m : Int) = c + ((m + 1 : Nat) : Int) := by omega
                                       rw [← e]; exact p3, w5.tr p4, w6.tr p5⟩
        · unfold sX3_makeRoom_101 zc zl
          rw [w1]
          dsimp only
          rw [w2]
          show fX3_makeRoom_2 N n ((step : Int) + 1) _ = _
          rw [show ((step : Int) + 1) = ((step + 1 : Nat) : Int) by omega]
          exact p1
        · unfold zc
          rw [w3]
          exact p2
      cases f with
      | some k =>
        obtain ⟨a1, a2, a3, a4⟩ := f3 k rfl
        have hxr := (h.rf k a2).2.2.2.1
        have e13 : M 1 (2000 + k) = S 13 k := (h.ef k a2).2.2.2.2.2.1
        have zk : zR (k : Int) := by constructor <;> omega
        have z13 : zR (S 13 k) := by constructor <;> omega
        have e1 : (some k : Option Nat).elim (-5) Int.ofNat = (k : Int) := rfl
        have e2 : (some k : Option Nat).elim (-1) Int.ofNat = (k : Int) := rfl
        rw [e1, e2, if_pos zk, if_pos (show 0 ≤ (k : Int) by omega), if_pos zk, if_neg (show ¬ (k : Int) < 0 by omega), show ((2000 : Int) + (k : Int)).toNat = 2000 + k by omega, if_pos (show 0 ≤ (2000 : Int) + (k : Int) ∧ (2000 : Int) + (k : Int) < 3253 by omega), e13, if_pos z13]
        unfold sX3_makeRoom_59 zg zi zl
        dsimp only
        rw [if_pos zk, if_pos (show 0 ≤ (k : Int) by omega), if_pos (show zR (3 : Int) by decide), if_pos rfl, show ((k : Int)).toNat = k by omega, if_pos (show 0 ≤ (k : Int) ∧ (k : Int) < 400 by omega), if_pos z13]
        by_cases hch : S 13 k ≤ 0
        · rw [if_pos hch, if_pos hch]
          obtain ⟨Q3, S3, M3, p1, p2, p3⟩ := goes k 3 a2 (Or.inl rfl) a4 (Or.inl a1)
          refine ⟨Q3, S3, M3, p1, ?_, p3⟩
          unfold sX8_lets_82 zg zi
          rw [if_pos zk, if_neg (show ¬ (k : Int) < 0 by omega)]
          exact p2
        · rw [if_neg hch, if_neg hch]
          have h1 := zSim_fact h (r := 13) (o := 2000) (k := k) a2 (S 13 k - 1) (by omega) (zRf_up h.rf (by omega))
          obtain ⟨S2, M2, w1, w2, w3, w4, w5, w6⟩ := zSim_mv N h1 (k := k) (t := 1) a2 (by omega) (fun _ => Or.inr (Or.inr (Or.inl (by rw [zup_other (by decide)]; exact a3))))
          have w1 : fX3_move N (k : Int) 1 (zup S 13 k (S 13 k - 1)) = some S2 := w1
          have w2 : fX8_goes N (k : Int) 1 (zup M 1 (2000 + k) (S 13 k - 1)) = some M2 := w2
          unfold zc
          rw [w1, w2]
          have hms : zms S2 (zmv Q k 1) ≤ m := by
            unfold zms at hm ⊢
            rw [w5 13 (by decide) (by decide), zsm_mv _ n1, zmv_len n2, if_pos a1, if_pos rfl, if_neg (show ¬ 2 = 1 by omega)]
            have hk2 : k ∉ Q 2 := fun q => by have := ((zCI_mem h.ci (w := 2) (by omega) (by omega)).mp q).2; omega
            rw [if_neg hk2]
            have e9 : zsm (fun j => zup S 13 k (S 13 k - 1) 13 j + 1) (Q 1) = zsm (fun j => S 13 j + 1) (Q 1) - 1 := by
              obtain ⟨l1, l2, hl, hf⟩ := zfil n1 a1
              rw [hl] at n1 ⊢
              have hd := List.nodup_append.mp n1
              have hd2 := List.nodup_cons.mp hd.2.1
              rw [zsm_app, zsm_app, zsm_cons, zsm_cons, zup_eq]
              have c1 : zsm (fun j => zup S 13 k (S 13 k - 1) 13 j + 1) l1 = zsm (fun j => S 13 j + 1) l1 := zsm_congr (fun j hj => by rw [zup_self, if_neg (fun q => hd.2.2 j hj k (by simp) q)])
              have c2 : zsm (fun j => zup S 13 k (S 13 k - 1) 13 j + 1) l2 = zsm (fun j => S 13 j + 1) l2 := zsm_congr (fun j hj => by rw [zup_self, if_neg (fun (q : j = k) => hd2.1 (q ▸ hj))])
              rw [c1, c2]
              omega
            rw [e9]
            omega
          obtain ⟨Q3, S3, M3, p1, p2, p3, p4, p5⟩ := ih n n' (step + 1) (c + 1) (zmv Q k 1) S2 M2 w3 hms (by omega) (by omega) (by omega) (by omega)
          have q13 : zFrS S (zup S 13 k (S 13 k - 1)) := ⟨zup_other (by decide), zup_other (by decide), zup_other (by decide)⟩
          refine ⟨Q3, S3, M3, ?_, ?_, by have e : c + 1 + (m : Int) = c + ((m + 1 : Nat) : Int) := by omega
                                         rw [← e]; exact p3, (q13.tr w5.fr).tr p4, (zFrM.up.tr (zFrM.of1 w6)).tr p5⟩
          · show fX3_makeRoom_2 N n ((step : Int) + 1) S2 = _
            rw [show ((step : Int) + 1) = ((step + 1 : Nat) : Int) by omega]
            exact p1
          · exact p2
      | none =>
        have e1 : (none : Option Nat).elim (-5) Int.ofNat = (-5 : Int) := rfl
        have e2 : (none : Option Nat).elim (-1) Int.ofNat = (-1 : Int) := rfl
        rw [e1, e2, if_pos (show zR (-5 : Int) by decide), if_neg (show ¬ 0 ≤ (-5 : Int) by decide), if_pos (show zR (-1 : Int) by decide), if_pos (show (-1 : Int) < 0 by decide)]
        unfold sX3_makeRoom_59 sX8_lets_82 zg zi
        rw [if_pos (show zR (-1 : Int) by decide), if_pos (show (-1 : Int) < 0 by decide)]
        cases g with
        | none =>
          rw [e1, e2, if_pos (show zR (-5 : Int) by decide), if_neg (show ¬ 0 ≤ (-5 : Int) by decide), if_pos (show zR (-1 : Int) by decide), if_pos (show (-1 : Int) < 0 by decide)]
          exact ⟨Q, S, M, rfl, rfl, h.weak (by omega), zFrS.rf, zFrM.rf⟩
        | some k =>
          obtain ⟨a1, a2, a3, a4⟩ := g3 k rfl
          have zk : zR (k : Int) := by constructor <;> omega
          have d1 : (some k : Option Nat).elim (-5) Int.ofNat = (k : Int) := rfl
          have d2 : (some k : Option Nat).elim (-1) Int.ofNat = (k : Int) := rfl
          rw [d1, d2, if_pos zk, if_pos (show 0 ≤ (k : Int) by omega), if_pos (show zR (4 : Int) by decide), if_neg (show ¬ (4 : Int) = 3 by decide), if_pos zk, if_neg (show ¬ (k : Int) < 0 by omega)]
          obtain ⟨Q3, S3, M3, p1, p2, p3⟩ := goes k 4 a2 (Or.inr rfl) a4 (Or.inr a1)
          exact ⟨Q3, S3, M3, p1, p2, p3⟩
