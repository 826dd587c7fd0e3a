/-! rows of a part, and the runs of a trace -/
theorem zpk_pt {is : List Nat} {M q : zM} (hn : va_nd is = true) {j : Nat} (hj : j < is.length) : zpk is (zpt is M q) j = q j := by
  unfold zpk zpt
  have h1 : is[j]? = some (is.getD j 0) := by
    rw [List.getD_eq_getElem?_getD, List.getElem?_eq_getElem hj]
    rfl
  rw [zix_of hn h1]
theorem zpt_off {is : List Nat} {M q : zM} {k : Nat} (hk : k ∉ is) : zpt is M q k = M k := by
  unfold zpt
  cases hz : zix is k with
  | none => rfl
  | some j => exact absurd (List.mem_of_getElem? (zix_some hz)) hk
theorem zpt_at {is : List Nat} {M q : zM} (hn : va_nd is = true) {j k : Nat} (hj : is[j]? = some k) : zpt is M q k = q j := by
  unfold zpt
  rw [zix_of hn hj]
theorem zSim_rows {e : Bool} {b c : Int} {Q : Nat → List Nat} {S S' M : zM} (h : zSim e b c Q S M) (hr : ∀ r, r ≤ 20 → S' r = S r) : zSim e b c Q S' M := by
  refine ⟨zCI_off h.ci (hr 4 (by decide)) (hr 5 (by decide)) (hr 6 (by decide)) (hr 7 (by decide)) (hr 9 (by decide)) (hr 10 (by decide)), h.mi, ?_, ?_, ?_, ?_, ?_, ?_, ?_⟩
  · unfold zEf
    rw [hr 9 (by decide), hr 15 (by decide), hr 10 (by decide), hr 11 (by decide), hr 12 (by decide), hr 13 (by decide), hr 14 (by decide)]
    exact h.ef
  · unfold zEs
    rw [hr 1 (by decide), hr 2 (by decide)]
    exact h.es
  · unfold zEg
    rw [hr 16 (by decide), hr 17 (by decide)]
    exact h.eg
  · unfold zEb
    rw [hr 18 (by decide), hr 19 (by decide), hr 20 (by decide)]
    exact h.eb
  · unfold zRf
    rw [hr 10 (by decide), hr 11 (by decide), hr 12 (by decide), hr 13 (by decide), hr 14 (by decide)]
    exact h.rf
  · unfold zRs
    rw [hr 1 (by decide)]
    exact h.rs
  · unfold zGg
    rw [hr 16 (by decide), hr 17 (by decide)]
    exact h.gg
theorem zSim_M {e : Bool} {b c : Int} {Q : Nat → List Nat} {S M M' : zM} (h : zSim e b c Q S M) (h1 : M' 1 = M 1) (h0 : M' 0 5 = M 0 5) (h4 : M' 4 = M 4) : zSim e b c Q S M' := by
  unfold zSim zGg
  rw [h1, h0, h4]
  exact h
theorem zpk21 {M : zM} {r : Nat} (hr : r ≤ 20) : zpk is_0n21 M r = M r := by
  unfold zpk is_0n21
  have : ∀ r : Nat, r ≤ 20 → ([0, 1, 2, 3, 4, 5, 6, 7, 8, 9, 10, 11, 12, 13, 14, 15, 16, 17, 18, 19, 20] : List Nat).getD r 0 = r := by decide
  rw [this r hr]
theorem zpt21 {M q : zM} {r : Nat} (hr : 20 < r) : zpt is_0n21 M q r = M r := by
  refine zpt_off (fun h => ?_)
  have : ∀ x ∈ is_0n21, x ≤ 20 := by decide
  have := this r h
  omega
def zRv (S : zM) : Prop := ∀ k, k < 400 → zR (S 15 k)
/-- rows from o on -/
def zsh (o : Nat) (M : zM) : zM := fun r => M (r + o)
/-- a trace on both sides: the component's rows, the reference's at t * 20 -/
def zTre (t : Nat) (T M : zM) : Prop := ∃ sz : Nat, sz ≤ 20 ∧ T 0 3 = (sz : Int) ∧ M 9 t = (sz : Int) ∧ ∀ i, i < sz → T 1 i = M 6 (t * 20 + i) ∧ T 2 i = M 7 (t * 20 + i) ∧ (T 1 i = 103 ∨ T 1 i = 112 ∨ T 1 i = 120) ∧ (0 ≤ T 2 i ∧ T 2 i < 400) ∧ (T 1 i = 112 → T 3 i = M 8 (t * 20 + i) ∧ 1 ≤ T 3 i ∧ T 3 i ≤ 9)
theorem sim_perf (N : Nat) (hN : 6000 < N) {b B0 : Int} {t sz : Nat} (ht : t < 6) (hsz : sz ≤ 20) : ∀ (m n n' i : Nat) (c : Int) (Q : Nat → List Nat) (M0 M : zM), zSim false b c Q (zpk is_0n21 M0) M → M0 21 3 = (sz : Int) → M 9 t = (sz : Int) →
    (∀ i, i < sz → M0 22 i = M 6 (t * 20 + i) ∧ M0 23 i = M 7 (t * 20 + i) ∧ (M0 22 i = 103 ∨ M0 22 i = 112 ∨ M0 22 i = 120) ∧ (0 ≤ M0 23 i ∧ M0 23 i < 400) ∧ (M0 22 i = 112 → M0 24 i = M 8 (t * 20 + i) ∧ 1 ≤ M0 24 i ∧ M0 24 i ≤ 9)) →
    i + m = sz → m < n → m < n' → c + 6001 * m ≤ 1899990000 →
    ∃ r Q' M0' M', fX3_perform_9 N n B0 (i : Int) M0 = some (r, M0') ∧ fX8_runs_14 N n' (t : Int) B0 ((t : Int) * 20 + i) M = some (r, M') ∧ zSim false b (c + 6001 * m) Q' (zpk is_0n21 M0') M' ∧ (∀ r, 20 < r → M0' r = M0 r) ∧ M0' 1 0 = M0 1 0 ∧ zFrM M M' ∧ r = M0' 2 0 - B0 ∧ M0 2 0 ≤ M0' 2 0 ∧ M0' 2 0 ≤ M0 2 0 + m ∧ (zRv M0 → zRv M0') := by
  intro m
  induction m with
  | zero =>
    intro n n' i c Q M0 M h h21 h9 hE hi hn hn' hc
    obtain ⟨n, rfl⟩ : ∃ x, n = x + 1 := ⟨n - 1, by omega⟩
    obtain ⟨n', rfl⟩ : ∃ x, n' = x + 1 := ⟨n' - 1, by omega⟩
    have p0 := h.es.2.1
    rw [zpk21 (by decide)] at p0
    refine ⟨M0 2 0 - B0, Q, M0, M, ?_, ?_, h.weak (by omega), fun _ _ => rfl, rfl, zFrM.rf, rfl, by omega, by omega, id⟩
    · unfold fX3_perform_9 sX3_perform_9 zg zi
      rw [h21, if_pos (by constructor <;> omega), if_pos (by constructor <;> omega), if_pos (by omega)]
    · unfold fX8_runs_14 sX8_runs_14 zg zi
      rw [show ((t : Int)).toNat = t by omega, h9, if_pos (by omega), if_pos (by constructor <;> omega), if_pos (by constructor <;> omega), if_pos (by omega), p0]
  | succ m ih =>
    intro n n' i c Q M0 M h h21 h9 hE hi hn hn' hc
    obtain ⟨n, rfl⟩ : ∃ x, n = x + 1 := ⟨n - 1, by omega⟩
    obtain ⟨n', rfl⟩ : ∃ x, n' = x + 1 := ⟨n' - 1, by omega⟩
    obtain ⟨e22, e23, ek, ⟨k0, k4⟩, ew⟩ := hE i (by omega)
    obtain ⟨k, hk⟩ : ∃ k : Nat, M0 23 i = (k : Int) := ⟨(M0 23 i).toNat, by omega⟩
    have hk4 : k < 400 := by omega
    have nd : va_nd is_0n21 = true := by decide
    -- one act, then the rest
    have step : ∀ (d : Int) (Q1 : Nat → List Nat) (M1 M2 : zM), zSim false b (c + 6001) Q1 (zpk is_0n21 M1) M2 → (∀ r, 20 < r → M1 r = M0 r) → M1 1 0 = M0 1 0 → zFrM M M2 → M1 2 0 = M0 2 0 + d → 0 ≤ d ∧ d ≤ 1 → (zRv M0 → zRv M1) →
        fX3_perform_9 N (n + 1) B0 (i : Int) M0 = fX3_perform_9 N n B0 ((i + 1 : Nat) : Int) M1 → fX8_runs_14 N (n' + 1) (t : Int) B0 ((t : Int) * 20 + i) M = fX8_runs_14 N n' (t : Int) B0 ((t : Int) * 20 + (i + 1 : Nat)) M2 →
        ∃ r Q' M0' M', fX3_perform_9 N (n + 1) B0 (i : Int) M0 = some (r, M0') ∧ fX8_runs_14 N (n' + 1) (t : Int) B0 ((t : Int) * 20 + i) M = some (r, M') ∧ zSim false b (c + 6001 * (m + 1 : Nat)) Q' (zpk is_0n21 M0') M' ∧ (∀ r, 20 < r → M0' r = M0 r) ∧ M0' 1 0 = M0 1 0 ∧ zFrM M M' ∧ r = M0' 2 0 - B0 ∧ M0 2 0 ≤ M0' 2 0 ∧ M0' 2 0 ≤ M0 2 0 + (m + 1 : Nat) ∧ (zRv M0 → zRv M0') := by
      intro d Q1 M1 M2 hs ho h10 hf hd hd1 hv q1 q2
      obtain ⟨r, Q', M0', M', a1, a2, a3, a4, a5, a6, a7, a8, a9, a10⟩ := ih n n' (i + 1) (c + 6001) Q1 M1 M2 hs (by rw [ho 21 (by decide)]; exact h21) (by rw [hf.1 9 (by decide) (by decide) (by decide)]; exact h9) (fun j hj => by
        rw [ho 22 (by decide), ho 23 (by decide), ho 24 (by decide), hf.1 6 (by decide) (by decide) (by decide), hf.1 7 (by decide) (by decide) (by decide), hf.1 8 (by decide) (by decide) (by decide)]
        exact hE j hj) (by omega) (by omega) (by omega) (by omega)
      exact ⟨r, Q', M0', M', q1.trans a1, q2.trans a2, a3.weak (by omega), fun r hr => (a4 r hr).trans (ho r hr), a5.trans h10, hf.tr a6, a7, by omega, by omega, fun q => a10 (hv q)⟩
    have ix : ((t : Int) * 20 + (i : Int)).toNat = t * 20 + i := by omega
    have gx : 0 ≤ (t : Int) * 20 + (i : Int) ∧ (t : Int) * 20 + (i : Int) < 120 := by omega
    have zi1 : zR (i : Int) := by constructor <;> omega
    have zi2 : zR ((t : Int) * 20 + (i : Int)) := by constructor <;> omega
    have zi3 : zR (sz : Int) := by constructor <;> omega
    have zi4 : zR ((t : Int) * 20 + (sz : Int)) := by constructor <;> omega
    have ii : (i : Int) + 1 = ((i + 1 : Nat) : Int) := by omega
    have it : (t : Int) * 20 + (i : Int) + 1 = (t : Int) * 20 + ((i + 1 : Nat) : Int) := by omega
    have hd1 : fX3_perform_9 N (n + 1) B0 (i : Int) M0 = sX3_perform_9 N (fun x2 x3 M0 => fX3_perform_9 N n x2 x3 M0) B0 (i : Int) M0 := rfl
    have hd2 : fX8_runs_14 N (n' + 1) (t : Int) B0 ((t : Int) * 20 + i) M = sX8_runs_14 N (fun x1 x2 x3 M0 => fX8_runs_14 N n' x1 x2 x3 M0) (t : Int) B0 ((t : Int) * 20 + i) M := rfl
    rcases ek with ek | ek | ek
    · obtain ⟨r, Q1, S1, M2, a1, a2, a3, a4, a5, a6, a7, a8⟩ := sim_fetch N hN h hk4 (by omega)
      refine step r Q1 (zpt is_0n21 M0 S1) M2 (zSim_rows a3 (fun r hr => zpk_pt nd (show r < 21 by omega))) (fun r hr => zpt21 hr) ?_ a6 ?_ (by rw [a8]; split <;> omega) (fun q j hj => by rw [zpt_at nd (show is_0n21[15]? = some 15 by rfl), a4]; exact q j hj) ?_ ?_
      · rw [zpt_at nd (show is_0n21[1]? = some 1 by rfl), a5]; rfl
      · rw [zpt_at nd (show is_0n21[2]? = some 2 by rfl), a7]; rfl
      · rw [hd1]
        unfold sX3_perform_9 sX3_perform_106 zg zi zl zc2
        dsimp only
        rw [h21, show ((i : Int)).toNat = i by omega, ek, hk, if_pos zi1, if_pos zi3, if_neg (by omega), if_pos (by omega), if_pos (by constructor <;> omega), if_pos rfl, a1, ii]
      · rw [hd2]
        unfold sX8_runs_14 sX8_runs_115 zg zi zl zc2
        dsimp only
        rw [show ((t : Int)).toNat = t by omega, h9, ix, ← e22, ek, ← e23, hk, if_pos (by omega), if_pos zi2, if_pos zi4, if_neg (by omega), if_pos gx, if_pos (by constructor <;> omega), if_pos rfl, a2, it]
    · obtain ⟨e24, w1, w9⟩ := ew ek
      have p0 := h.es.1.1
      rw [zpk21 (by decide)] at p0
      have r10 := h.rs.1
      rw [zpk21 (by decide)] at r10
      by_cases hw : M0 1 0 < M0 24 i
      · refine step 0 Q M0 M (h.weak (by omega)) (fun _ _ => rfl) rfl zFrM.rf (by omega) (by omega) id ?_ ?_
        · rw [hd1]
          unfold sX3_perform_9 sX3_perform_106 zg zi zl
          dsimp only
          rw [h21, show ((i : Int)).toNat = i by omega, ek, if_pos zi1, if_pos zi3, if_neg (by omega), if_pos (by omega), if_pos (by constructor <;> omega), if_neg (by decide), if_pos rfl, if_pos (by constructor <;> omega), if_pos (by constructor <;> omega), if_pos hw, ii]
        · rw [hd2]
          unfold sX8_runs_14 sX8_runs_115 zg zi zl
          dsimp only
          rw [show ((t : Int)).toNat = t by omega, h9, ix, ← e22, ek, ← e24, p0, if_pos (by omega), if_pos zi2, if_pos zi4, if_neg (by omega), if_pos gx, if_pos (by constructor <;> omega), if_neg (by decide), if_neg (by decide), if_pos (by constructor <;> omega), if_pos (by constructor <;> omega), if_pos hw, it]
      · obtain ⟨r, Q1, S1, M2, a1, a2, a3, a4, a5, a6, a7⟩ := sim_store N hN h hk4 (v := 0) (w := M0 24 i) (cst := 1) ⟨w1, w9⟩ (by omega) (by omega)
        refine step 0 Q1 (zpt is_0n21 M0 S1) M2 (zSim_rows a3 (fun r hr => zpk_pt nd (show r < 21 by omega))) (fun r hr => zpt21 hr) ?_ a6 ?_ (by omega) (fun q j hj => by
          rw [zpt_at nd (show is_0n21[15]? = some 15 by rfl), a7]
          split
          · decide
          · exact q j hj) ?_ ?_
        · rw [zpt_at nd (show is_0n21[1]? = some 1 by rfl), a4]; rfl
        · rw [zpt_at nd (show is_0n21[2]? = some 2 by rfl), a5, zpk21 (by decide)]; omega
        · rw [hd1]
          unfold sX3_perform_9 sX3_perform_106 zg zi zl zc2
          dsimp only
          rw [h21, show ((i : Int)).toNat = i by omega, ek, hk, if_pos zi1, if_pos zi3, if_neg (by omega), if_pos (by omega), if_pos (by constructor <;> omega), if_neg (by decide), if_pos rfl, if_pos (by constructor <;> omega), if_pos (by constructor <;> omega), if_neg hw, a1, ii]
        · rw [hd2]
          unfold sX8_runs_14 sX8_runs_115 zg zi zl zc2
          dsimp only
          rw [show ((t : Int)).toNat = t by omega, h9, ix, ← e22, ek, ← e24, ← e23, hk, p0, if_pos (by omega), if_pos zi2, if_pos zi4, if_neg (by omega), if_pos gx, if_pos (by constructor <;> omega), if_neg (by decide), if_neg (by decide), if_pos (by constructor <;> omega), if_pos (by constructor <;> omega), if_neg hw, a2, it]
    · obtain ⟨Q1, S1, M2, a1, a2, a3, a4, a5, a6, a7⟩ := sim_drop N h hk4
      refine step 0 Q1 (zpt is_0n21 M0 S1) M2 ((zSim_rows a3 (fun r hr => zpk_pt nd (show r < 21 by omega))).weak (by omega)) (fun r hr => zpt21 hr) ?_ a6 ?_ (by omega) (fun q j hj => by rw [zpt_at nd (show is_0n21[15]? = some 15 by rfl), a7]; exact q j hj) ?_ ?_
      · rw [zpt_at nd (show is_0n21[1]? = some 1 by rfl), a4]; rfl
      · rw [zpt_at nd (show is_0n21[2]? = some 2 by rfl), a5, zpk21 (by decide)]; omega
      · rw [hd1]
        unfold sX3_perform_9 sX3_perform_106 zg zi zl zc
        dsimp only
        rw [h21, show ((i : Int)).toNat = i by omega, ek, hk, if_pos zi1, if_pos zi3, if_neg (by omega), if_pos (by omega), if_pos (by constructor <;> omega), if_neg (by decide), if_neg (by decide), a1, ii]
      · rw [hd2]
        unfold sX8_runs_14 sX8_runs_115 zg zi zl zc2
        dsimp only
        rw [show ((t : Int)).toNat = t by omega, h9, ix, ← e22, ek, ← e23, hk, if_pos (by omega), if_pos zi2, if_pos zi4, if_neg (by omega), if_pos gx, if_pos (by constructor <;> omega), if_neg (by decide), if_pos rfl, a2, it]
/-- a whole trace -/
theorem sim_runs (N : Nat) (hN : 6000 < N) {b c : Int} {Q : Nat → List Nat} {M0 M : zM} {t : Nat} (ht : t < 6) (h : zSim false b c Q (zpk is_0n21 M0) M) (hT : zTre t (zsh 21 M0) M) (hc : c + 120020 ≤ 1899990000) :
    ∃ r Q' M0' M', fX3_perform N M0 = some (r, M0') ∧ fX8_runs N (t : Int) M = some (r, M') ∧ zSim false b (c + 120020) Q' (zpk is_0n21 M0') M' ∧ (∀ r, 20 < r → M0' r = M0 r) ∧ M0' 1 0 = M0 1 0 ∧ zFrM M M' ∧ r = M0' 2 0 - M0 2 0 ∧ 0 ≤ r ∧ r ≤ 20 ∧ (zRv M0 → zRv M0') := by
  obtain ⟨sz, hsz, h21, h9, hE⟩ := hT
  have p0 := h.es.2.1
  rw [zpk21 (by decide)] at p0
  obtain ⟨r, Q', M0', M', a1, a2, a3, a4, a5, a6, a7, a8, a9, a10⟩ := sim_perf N hN (B0 := M0 2 0) ht hsz sz N N 0 c Q M0 M h h21 h9 hE (by omega) (by omega) (by omega) (by omega)
  refine ⟨r, Q', M0', M', a1, ?_, a3.weak (by omega), a4, a5, a6, a7, by omega, by omega, a10⟩
  unfold fX8_runs zl
  dsimp only
  rw [p0]
  have : (t : Int) * 20 + ((0 : Nat) : Int) = (t : Int) * 20 := by omega
  rw [this] at a2
  exact a2
