/-! store and putIn -/
theorem s_replace_eq (N : Nat) {S : zM} {k x : Nat} {v w cst : Int} (hk : k < 400) (hx4 : x ≤ 4) (h9 : S 9 k = (x : Int)) :
    fX3_replace N (k : Int) v w cst S = fX3_hit N (k : Int) (zup (zup (zup (zup S 5 x (S 5 x + (w - S 10 k))) 10 k w) 15 k v) 11 k cst) := by
  unfold fX3_replace zg zl
  dsimp only
  rw [show ((k : Int)).toNat = k by omega, h9, show ((x : Int)).toNat = x by omega, if_pos (by omega), if_pos (by omega), zup_swap (zup S 5 x (S 5 x + (w - S 10 k))) (k := 15) (k' := 10) (Or.inl (by decide))]
  unfold zc
  cases fX3_hit N (k : Int) (zup (zup (zup (zup S 5 x (S 5 x + (w - S 10 k))) 10 k w) 15 k v) 11 k cst) <;> rfl
theorem m_weighs_eq (N : Nat) {M : zM} {k x : Nat} {w : Int} (hk : k < 400) (hx4 : x ≤ 4) (h9 : M 1 k = (x : Int)) :
    fX8_weighs N (k : Int) w M = some (zup (zup M 1 (3204 + x) (M 1 (3204 + x) + (w - M 1 (800 + k)))) 1 (800 + k) w) := by
  unfold fX8_weighs zg zl
  dsimp only
  rw [show ((0 : Int) + (k : Int)).toNat = k by omega, h9, show ((3204 : Int) + (x : Int)).toNat = 3204 + x by omega, show ((800 : Int) + (k : Int)).toNat = 800 + k by omega, if_pos (by omega), if_pos (by omega), if_pos (by omega)]
/-- a thing that is there is put anew -/
theorem sim_store_thing (N : Nat) (hN : 6000 < N) {b c : Int} {e : Bool} {Q : Nat → List Nat} {S M : zM} (h : zSim e b c Q S M) {k : Nat} {v w cst : Int} (hk : k < 400) (hw : 1 ≤ w ∧ w ≤ 9) (hcs : 0 ≤ cst ∧ cst ≤ 99) (hc : c ≤ 1899990000) (ht : S 9 k = 1 ∨ S 9 k = 2) :
    ∃ Q' S' M', fX3_store N (k : Int) v w cst S = some (2, S') ∧ fX8_putIn N (k : Int) v w cst M = some (2, M') ∧ zSim e b (c + 6001) Q' S' M' ∧ S' 1 = S 1 ∧ S' 2 = S 2 ∧ zFrM M M' ∧ (∀ j, S' 15 j = if j = k then v else S 15 j) := by
  obtain ⟨x, hx, hx12⟩ : ∃ x : Nat, S 9 k = (x : Int) ∧ (x = 1 ∨ x = 2) := by
    rcases ht with q | q
    · exact ⟨1, q, Or.inl rfl⟩
    · exact ⟨2, q, Or.inr rfl⟩
  have hr := h.ci.2.2 k hk
  have q1 := (h.ef k hk).1
  have h1 := zSim_wt h (v := w) (x := x) (by omega) (by omega) hk hx ⟨by omega, hw.2⟩
  have h2 := zSim_fact h1 (r := 15) (o := 400) (k := k) hk v (by omega) (zRf_up h1.rf (by omega))
  have h3 := zSim_fact h2 (r := 11) (o := 1200) (k := k) hk cst (by omega) (zRf_up h2.rf (by omega))
  obtain ⟨Q4, S4, M4, a1, a2, a3, a4, a5, a6⟩ := sim_hit N h3 hk (by rw [zup_other (by decide), zup_other (by decide), zup_other (by decide), zup_other (by decide)]; exact ht)
  obtain ⟨Q5, S5, M5, c1, c2, c3, c4, c5⟩ := sim_trim N hN a3 (by omega)
  refine ⟨Q5, S5, M5, ?_, ?_, c3.weak (by omega), ?_, ?_, ?_, ?_⟩
  · unfold fX3_store sX3_store_39 sX3_store_62 zc2 zc zg zi zl
    dsimp only
    rw [show ((k : Int)).toNat = k by omega, if_pos (by omega), s_isThing N hk hr, if_pos ht]
    dsimp only
    rw [if_pos (by decide), if_neg (by decide), s_replace_eq N hk (by omega) hx, a1]
    dsimp only
    rw [c1]
    dsimp only
    rw [if_pos (by constructor <;> omega), if_neg (by omega)]
    rcases ht with q | q
    · rw [if_pos q]
    · rw [if_neg (by omega), if_pos q]
  · have key : ∀ M0, sX8_putIn_51 N (k : Int) M0 = zc (fX8_hit N (k : Int) M0) fun M11 => zc (fX8_trim N M11) fun M13 => some ((2 : Int), M13) := fun _ => rfl
    unfold fX8_putIn zg zi zl
    dsimp only
    rw [show ((0 : Int) + (k : Int)).toNat = k by omega, show ((400 : Int) + (k : Int)).toNat = 400 + k by omega, show ((1200 : Int) + (k : Int)).toNat = 1200 + k by omega, if_pos (by omega), m_weighs_eq N hk (x := x) (by omega) (by rw [q1]; exact hx)]
    unfold zc
    dsimp only
    rw [if_pos (by omega), if_pos (by omega), if_pos (by rw [q1]; constructor <;> omega), q1]
    have fin : sX8_putIn_51 N (k : Int) (zup (zup (zup (zup M 1 (3204 + x) (M 1 (3204 + x) + (w - M 1 (800 + k)))) 1 (800 + k) w) 1 (400 + k) v) 1 (1200 + k) cst) = some (2, M5) := by
      rw [key]
      unfold zc
      rw [a2]
      dsimp only
      rw [c2]
    rcases ht with q | q
    · rw [if_pos q]; exact fin
    · rw [if_neg (by omega), if_pos q]; exact fin
  · rw [c4.1, a4.1, zup_other (by decide), zup_other (by decide), zup_other (by decide), zup_other (by decide)]
  · rw [c4.2.1, a4.2.1, zup_other (by decide), zup_other (by decide), zup_other (by decide), zup_other (by decide)]
  · exact ((((zFrM.up.tr zFrM.up).tr zFrM.up).tr zFrM.up).tr a5).tr c5
  · intro j
    rw [c4.2.2, a4.2.2, zup_other (by decide), zup_self, zup_other (by decide), zup_other (by decide)]
/-- what a key's facts are when it comes anew -/
def zadm (S : zM) (k : Nat) (v w cst bo li : Int) : zM := zup (zup (zup (zup (zup (zup (zup (zup S 1 1 bo) 2 4 (S 2 4 + cst)) 15 k v) 10 k w) 11 k cst) 12 k 0) 13 k li) 14 k 0
def zput (M : zM) (k x : Nat) (v w cst bo li : Int) : zM := zup (zup (zup (zup (zup (zup (zup (zup (zup M 1 (3204 + x) (M 1 (3204 + x) + (w - M 1 (800 + k)))) 1 (800 + k) w) 1 (400 + k) v) 1 (1200 + k) cst) 1 3213 (M 1 3213 + cst)) 1 (1600 + k) 0) 1 (2400 + k) 0) 1 (2000 + k) li) 1 3201 bo
theorem s_ad72 (N : Nat) {S : zM} {k x : Nat} {v w cst : Int} (hk : k < 400) (hx : x ≤ 4) : sX3_admit_72 N (k : Int) v w cst (x : Int) S = fX3_move N (k : Int) (if x = 0 then 1 else 2) (zadm S k v w cst (S 1 1) (if x = 0 then S 1 3 else 0)) := by
  have fin : ∀ (y : Int) (S0 : zM), sX3_admit_165 N y (k : Int) S0 = fX3_move N (k : Int) y S0 := by
    intro y S0
    unfold sX3_admit_165 zc
    cases fX3_move N (k : Int) y S0 <;> rfl
  have zx : zR (x : Int) := by constructor <;> omega
  have gk : 0 ≤ (k : Int) ∧ (k : Int) < 400 := by omega
  unfold sX3_admit_72 sX3_admit_143 zg zi zl zadm
  dsimp only
  rw [show ((k : Int)).toNat = k by omega, if_pos gk, if_pos zx, if_pos gk, if_pos gk, if_pos gk, if_pos gk, if_pos zx, if_pos zx, zup_same]
  by_cases h0 : x = 0
  · subst h0
    rw [if_pos (show ((0 : Nat) : Int) = 0 from rfl), if_pos (show ((0 : Nat) : Int) = 0 from rfl), if_pos rfl, if_pos rfl, fin]
    rw [show zup (zup (zup (zup (zup S 2 4 (S 2 4 + cst)) 15 k v) 10 k w) 11 k cst) 12 k 0 1 3 = S 1 3 by rw [zup_other (by decide), zup_other (by decide), zup_other (by decide), zup_other (by decide), zup_other (by decide)]]
  · have hn : ¬ (x : Int) = 0 := by omega
    rw [if_neg hn, if_neg hn, if_neg h0, if_neg h0, fin]
/-- the border behind a key's coming anew -/
def zbor (x : Nat) (B C w : Int) : Int := if x = 3 then (if B ≤ w then 0 else B - w) else if x = 4 then (if C ≤ B + w then C else B + w) else B
theorem s_admit_eq (N : Nat) {S S4 : zM} {k x : Nat} {v w cst : Int} (hk : k < 400) (hx : x = 0 ∨ x = 3 ∨ x = 4) (h9 : S 9 k = (x : Int)) (hm : fX3_move N (k : Int) 0 S = some S4) (hs : S4 1 = S 1) (hB : 0 ≤ S 1 1 ∧ S 1 1 ≤ 99) (hC : 0 ≤ S 1 0 ∧ S 1 0 ≤ 99) (hw : 1 ≤ w ∧ w ≤ 9) :
    fX3_admit N (k : Int) v w cst S = fX3_move N (k : Int) (if x = 0 then 1 else 2) (zadm S4 k v w cst (zbor x (S 1 1) (S 1 0) w) (if x = 0 then S 1 3 else 0)) := by
  have gk : 0 ≤ (k : Int) ∧ (k : Int) < 400 := by omega
  have zx : zR (x : Int) := by constructor <;> omega
  have up : ∀ bo, zadm (zup S4 1 1 bo) k v w cst bo (if x = 0 then S 1 3 else 0) = zadm S4 k v w cst bo (if x = 0 then S 1 3 else 0) := by
    intro bo
    unfold zadm
    have : zup (zup S4 1 1 bo) 1 1 bo = zup S4 1 1 bo := by
      have := zup_same (zup S4 1 1 bo) 1 1
      rw [zup_eq] at this
      exact this
    rw [this, zup_other (by decide)]
  unfold fX3_admit zg zi zl zc
  dsimp only
  rw [show ((k : Int)).toNat = k by omega, h9, if_pos gk, hm]
  dsimp only
  rw [if_pos zx, hs]
  rcases hx with rfl | rfl | rfl
  · rw [if_neg (by decide), if_neg (by decide)]
    rw [s_ad72 N (x := 0) hk (by omega), hs]
    rfl
  · rw [if_pos (by decide), if_pos (by constructor <;> omega)]
    have hb : zmax (S 1 1 - w) 0 = zbor 3 (S 1 1) (S 1 0) w := by
      unfold zmax zbor
      rw [if_pos rfl]
      by_cases h : S 1 1 ≤ w
      · rw [if_pos h]
        split <;> omega
      · rw [if_neg h, if_neg (by omega)]
    rw [hb]
    have := s_ad72 N (S := zup S4 1 1 (zbor 3 (S 1 1) (S 1 0) w)) (x := 3) (v := v) (w := w) (cst := cst) hk (by omega)
    refine this.trans ?_
    rw [zup_eq]
    have u := up (zbor 3 (S 1 1) (S 1 0) w)
    rw [if_neg (show ¬ 3 = 0 by decide)] at u
    rw [if_neg (show ¬ 3 = 0 by decide), if_neg (show ¬ 3 = 0 by decide), u, if_neg (show ¬ 3 = 0 by decide)]
  · rw [if_neg (by decide), if_pos (by decide), if_pos (by constructor <;> omega), if_pos (by constructor <;> omega)]
    have hb : zmin (S 1 1 + w) (S 1 0) = zbor 4 (S 1 1) (S 1 0) w := by
      unfold zmin zbor
      rw [if_neg (show ¬ 4 = 3 by decide), if_pos (show 4 = 4 from rfl)]
      by_cases h : S 1 0 ≤ S 1 1 + w
      · rw [if_pos h]
        split <;> omega
      · rw [if_neg h, if_neg (by omega)]
    rw [hb]
    have := s_ad72 N (S := zup S4 1 1 (zbor 4 (S 1 1) (S 1 0) w)) (x := 4) (v := v) (w := w) (cst := cst) hk (by omega)
    refine this.trans ?_
    rw [zup_eq]
    have u := up (zbor 4 (S 1 1) (S 1 0) w)
    rw [if_neg (show ¬ 4 = 0 by decide)] at u
    rw [if_neg (show ¬ 4 = 0 by decide), if_neg (show ¬ 4 = 0 by decide), u, if_neg (show ¬ 4 = 0 by decide)]
theorem m_put_eq (N : Nat) {M : zM} {k x : Nat} {v w cst : Int} (hk : k < 400) (hx : x = 0 ∨ x = 3 ∨ x = 4) (h9 : M 1 k = (x : Int)) (hB : 0 ≤ M 1 3201 ∧ M 1 3201 ≤ 99) (hC : 0 ≤ M 1 3200 ∧ M 1 3200 ≤ 99) (hw : 1 ≤ w ∧ w ≤ 9) :
    fX8_putIn N (k : Int) v w cst M = zc (fX8_goes N (k : Int) (if x = 0 then 1 else 2) (zput M k x v w cst (zbor x (M 1 3201) (M 1 3200) w) (if x = 0 then M 1 3203 else 0))) fun M24 => zc (fX8_trim N M24) fun M26 => some ((if x = 0 then 0 else 1), M26) := by
  have zx : zR (x : Int) := by constructor <;> omega
  have i20 : ((2000 : Int) + (k : Int)).toNat = 2000 + k := by omega
  have g20 : 0 ≤ (2000 : Int) + (k : Int) ∧ (2000 : Int) + (k : Int) < 3253 := by omega
  -- the memory ahead of the border
  obtain ⟨M0, hM0⟩ : ∃ M0, M0 = zup (zup (zup (zup (zup (zup (zup M 1 (3204 + x) (M 1 (3204 + x) + (w - M 1 (800 + k)))) 1 (800 + k) w) 1 (400 + k) v) 1 (1200 + k) cst) 1 3213 (M 1 3213 + cst)) 1 (1600 + k) 0) 1 (2400 + k) 0 := ⟨_, rfl⟩
  have m01 : M0 1 3201 = M 1 3201 := by
    rw [hM0]; simp only [zup_self]
    rw [if_neg (by omega), if_neg (by omega), if_neg (by omega), if_neg (by omega), if_neg (by omega), if_neg (by omega), if_neg (by omega)]
  have m00 : M0 1 3200 = M 1 3200 := by
    rw [hM0]; simp only [zup_self]
    rw [if_neg (by omega), if_neg (by omega), if_neg (by omega), if_neg (by omega), if_neg (by omega), if_neg (by omega), if_neg (by omega)]
  have m03 : M0 1 3203 = M 1 3203 := by
    rw [hM0]; simp only [zup_self]
    rw [if_neg (by omega), if_neg (by omega), if_neg (by omega), if_neg (by omega), if_neg (by omega), if_neg (by omega), if_neg (by omega)]
  have fin : ∀ (t r : Int) (M1 : zM), (x = 0 → t = 1 ∧ r = 0) → (x ≠ 0 → t = 2 ∧ r = 1) → sX8_putIn_223 N (k : Int) (x : Int) M1 = zc (fX8_goes N (k : Int) t M1) fun M24 => zc (fX8_trim N M24) fun M26 => some (r, M26) := by
    intro t r M1 h0 h1
    unfold sX8_putIn_223 sX8_putIn_235 zg zi
    rw [if_pos zx]
    by_cases hx0 : x = 0
    · obtain ⟨rfl, rfl⟩ := h0 hx0
      rw [if_pos (by omega)]
      congr 1
      funext M24
      congr 1
      funext M26
      rw [if_pos zx, if_pos (by omega)]
    · obtain ⟨rfl, rfl⟩ := h1 hx0
      rw [if_neg (by omega)]
      congr 1
      funext M24
      congr 1
      funext M26
      rw [if_pos zx, if_neg (by omega)]
  have b123 : ∀ li, sX8_putIn_123 N (k : Int) w (x : Int) li ((2000 : Int) + (k : Int)) M0 = sX8_putIn_223 N (k : Int) (x : Int) (zup (zup M0 1 (2000 + k) li) 1 3201 (zbor x (M 1 3201) (M 1 3200) w)) := by
    intro li
    have n1 : zup M0 1 (2000 + k) li 1 3201 = M 1 3201 := by rw [zup_self, if_neg (by omega), m01]
    have n0 : zup M0 1 (2000 + k) li 1 3200 = M 1 3200 := by rw [zup_self, if_neg (by omega), m00]
    unfold sX8_putIn_123 sX8_putIn_163 sX8_putIn_222 zg zi zl
    dsimp only
    rw [i20, n1, n0, if_pos g20, if_pos zx]
    rcases hx with rfl | rfl | rfl
    · rw [if_neg (by decide), if_neg (by decide)]
      have : zbor 0 (M 1 3201) (M 1 3200) w = zup M0 1 (2000 + k) li 1 3201 := by rw [n1]; rfl
      rw [this, zup_same]
    · rw [if_pos (by decide), if_pos (by constructor <;> omega), if_pos (by constructor <;> omega)]
      unfold zbor
      rw [if_pos rfl]
      by_cases h : M 1 3201 ≤ w
      · rw [if_pos h, if_pos h, if_pos (by decide)]; rfl
      · rw [if_neg h, if_neg h, if_pos (by decide)]; rfl
    · rw [if_neg (by decide), if_pos (by decide), if_pos (by constructor <;> omega), if_pos (by constructor <;> omega)]
      unfold zbor
      rw [if_neg (show ¬ 4 = 3 by decide), if_pos (show 4 = 4 from rfl)]
      by_cases h : M 1 3200 ≤ M 1 3201 + w
      · rw [if_pos h, if_pos h, if_pos (by decide)]; rfl
      · rw [if_neg h, if_neg h, if_pos (by decide)]; rfl
  have hp : zput M k x v w cst (zbor x (M 1 3201) (M 1 3200) w) (if x = 0 then M 1 3203 else 0) = zup (zup M0 1 (2000 + k) (if x = 0 then M 1 3203 else 0)) 1 3201 (zbor x (M 1 3201) (M 1 3200) w) := by
    rw [hM0]; rfl
  have pd : zup (zup (zup (zup M 1 (3204 + x) (M 1 (3204 + x) + (w - M 1 (800 + k)))) 1 (800 + k) w) 1 (400 + k) v) 1 (1200 + k) cst 1 3213 = M 1 3213 := by
    simp only [zup_self]
    rw [if_neg (by omega), if_neg (by omega), if_neg (by omega), if_neg (by omega)]
  unfold fX8_putIn zg zi zl
  dsimp only
  rw [show ((0 : Int) + (k : Int)).toNat = k by omega, show ((400 : Int) + (k : Int)).toNat = 400 + k by omega, show ((1200 : Int) + (k : Int)).toNat = 1200 + k by omega, show ((1600 : Int) + (k : Int)).toNat = 1600 + k by omega, show ((2400 : Int) + (k : Int)).toNat = 2400 + k by omega, if_pos (by omega), m_weighs_eq N hk (x := x) (by omega) h9, h9]
  refine Eq.trans (b := if x = 0 then sX8_putIn_123 N (k : Int) w (x : Int) (M0 1 3203) ((2000 : Int) + (k : Int)) M0 else sX8_putIn_123 N (k : Int) w (x : Int) 0 ((2000 : Int) + (k : Int)) M0) ?_ ?_
  · unfold zc
    dsimp only
    rw [if_pos (by omega), if_pos (by omega), if_pos zx, if_neg (by omega), if_neg (by omega), pd, ← hM0, if_pos (by omega), if_pos (by omega)]
    by_cases h0 : x = 0
    · rw [if_pos (show (x : Int) = 0 by omega), if_pos h0]
    · rw [if_neg (show ¬ (x : Int) = 0 by omega), if_neg h0]
  · rw [hp]
    by_cases h0 : x = 0
    · rw [if_pos h0, if_pos h0, if_pos h0, if_pos h0, b123, m03]
      exact fin 1 0 _ (fun _ => ⟨rfl, rfl⟩) (fun q => absurd h0 q)
    · rw [if_neg h0, if_neg h0, if_neg h0, if_neg h0, b123]
      exact fin 2 1 _ (fun q => absurd q h0) (fun _ => ⟨rfl, rfl⟩)
