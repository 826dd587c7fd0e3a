theorem sim_forget12 (N : Nat) (hN : 400 < N) {e : Bool} {b : Int} {w : Nat} (hw : w = 3 ∨ w = 4) (size : Nat) (hsz : size ≤ 400) (k10 : Int → zM → Option zM) : ∀ (m n n' : Nat) (i : Nat) (c : Int) (Q : Nat → List Nat) (S M : zM), zSim e b c Q S M → (Q w).length = m → i + m = size → m < n → m < n' → c + m ≤ 2000000000 →
    ∃ Q' S' M', fX3_forget_12 N n (w : Int) (size : Int) (i : Int) S = some S' ∧ fX8_trim_15 N k10 n' (w : Int) M = k10 ((w : Int) + 1) M' ∧ zSim e b (c + m) Q' S' M' ∧ zFrS S S' ∧ zFrM M M' := by
  intro m
  induction m with
  | zero =>
    intro n n' i c Q S M h hm hi hn hn' hc
    obtain ⟨n, rfl⟩ : ∃ m, n = m + 1 := ⟨n - 1, by omega⟩
    obtain ⟨n', rfl⟩ : ∃ m, n' = m + 1 := ⟨n' - 1, by omega⟩
    have h1 : Q w = [] := List.eq_nil_of_length_eq_zero hm
    have s1 := h.emp (w := w) (by omega) (by omega) h1
    have m1 : M 1 (3204 + w) = S 5 w := zpmv (S' := S) (M' := M) h (w := w) (by omega) (by omega)
    have hb := h.rs.1
    have he : M 1 3200 = S 1 0 := h.es.1.1
    refine ⟨Q, S, M, ?_, ?_, h.weak (by omega), zFrS.rf, zFrM.rf⟩
    · show sX3_forget_12 N _ _ _ _ S = _
      unfold sX3_forget_12 zg zi
      rw [if_pos (by constructor <;> omega), if_pos (by constructor <;> omega), if_pos (by omega)]
    · show sX8_trim_15 N k10 _ _ M = _
      unfold sX8_trim_15 zg zi zl
      dsimp only
      rw [show ((3204 : Int) + (w : Int)).toNat = 3204 + w by omega, m1, s1, he, if_pos (by omega), if_pos (by decide), if_pos (by constructor <;> omega), if_pos (by omega)]
  | succ m ih =>
    intro n n' i c Q S M h hm hi hn hn' hc
    obtain ⟨n, rfl⟩ : ∃ m, n = m + 1 := ⟨n - 1, by omega⟩
    obtain ⟨n', rfl⟩ : ∃ m, n' = m + 1 := ⟨n' - 1, by omega⟩
    have m1 : M 1 (3204 + w) = S 5 w := zpmv (S' := S) (M' := M) h (w := w) (by omega) (by omega)
    have r1 := zsum_r h (w := w) (by omega) (by omega)
    have hb := h.rs.1
    have he : M 1 3200 = S 1 0 := h.es.1.1
    have zw : zR (S 5 w) := by constructor <;> omega
    have z0 : zR (S 1 0) := by constructor <;> omega
    have nd := zCI_nd h.ci (w := w) (by omega) (by omega)
    show ∃ Q' S' M', sX3_forget_12 N (fun x1 x2 x3 M0 => fX3_forget_12 N n x1 x2 x3 M0) (w : Int) (size : Int) (i : Int) S = some S' ∧ sX8_trim_15 N k10 (fun x1 M0 => fX8_trim_15 N k10 n' x1 M0) (w : Int) M = k10 ((w : Int) + 1) M' ∧ _
    unfold sX3_forget_12 sX8_trim_15 zg zi zl zc2
    dsimp only
    rw [show ((3204 : Int) + (w : Int)).toNat = 3204 + w by omega, show ((w : Int)).toNat = w by omega, m1, he, if_pos (show zR (i : Int) by constructor <;> omega), if_pos (show zR (size : Int) by constructor <;> omega), if_neg (show ¬ (size : Int) ≤ (i : Int) by omega), if_pos (show 0 ≤ (w : Int) ∧ (w : Int) < 5 by omega), if_pos zw, if_pos z0, if_pos (show 0 ≤ (3204 : Int) + (w : Int) ∧ (3204 : Int) + (w : Int) < 3253 by omega), if_pos zw, if_pos z0]
    by_cases hle : S 5 w ≤ S 1 0
    · rw [if_pos hle, if_pos hle]
      exact ⟨Q, S, M, rfl, rfl, h.weak (by omega), zFrS.rf, zFrM.rf⟩
    · rw [if_neg hle, if_neg hle]
      obtain ⟨k, l, hq⟩ : ∃ k l, Q w = k :: l := by
        cases hq : Q w with
        | nil => rw [hq] at hm; cases hm
        | cons k l => exact ⟨k, l, rfl⟩
      have hk : k ∈ Q w := by rw [hq]; simp
      obtain ⟨k4, k9⟩ := (zCI_mem h.ci (w := w) (by omega) (by omega)).mp hk
      rw [s_oldest N h.ci (w := w) (by omega) (by omega), m_oldest N hN (c := c) (by omega) h.mi (zpin h) (w := w) (by omega) (by omega) (by decide), hq]
      have e1 : ((k :: l ++ [400 + w]).headD 0 : Nat) = k := rfl
      have e2 : (k :: l).find? (fun k => decide (¬ ((0 : Int) ≠ 0 ∧ M 1 (2400 + k) = 1))) = some k := List.find?_cons_of_pos (by simp)
      rw [e1, e2]
      dsimp only
      rw [zpt_zpk]
      obtain ⟨S2, M2, w1, w2, w3, w4, w5, w6⟩ := zSim_mv N h (k := k) (t := 0) k4 (by omega) (fun _ => Or.inl rfl)
      have w1 : fX3_move N (k : Int) 0 S = some S2 := w1
      have w2 : fX8_goes N (Option.elim (some k) (-1) Int.ofNat) 0 M = some M2 := w2
      unfold zc
      rw [w1, w2]
      obtain ⟨Q3, S3, M3, p1, p2, p3, p4, p5⟩ := ih n n' (i + 1) (c + 1) (zmv Q k 0) S2 M2 w3 (by have := zmv_dec (t := 0) nd hk (by omega); omega) (by omega) (by omega) (by omega) (by omega)
      refine ⟨Q3, S3, M3, ?_, p2, by have e : c + 1 + (m : Int) = c + ((m + 1 : Nat) : Int) := by omega
                                     rw [← e]; exact p3, w5.fr.tr p4, (zFrM.of1 w6).tr p5⟩
      show fX3_forget_12 N n (w : Int) (size : Int) ((i : Int) + 1) S2 = _
      rw [show ((i : Int) + 1) = ((i + 1 : Nat) : Int) by omega]
      exact p1
theorem sim_forget (N : Nat) (hN : 400 < N) {e : Bool} {b c : Int} {w : Nat} (hw : w = 3 ∨ w = 4) (k10 : Int → zM → Option zM) {Q : Nat → List Nat} {S M : zM} (h : zSim e b c Q S M) (hc : c + 400 ≤ 2000000000) :
    ∃ Q' S' M', fX3_forget N (w : Int) S = some S' ∧ fX8_trim_15 N k10 N (w : Int) M = k10 ((w : Int) + 1) M' ∧ zSim e b (c + 400) Q' S' M' ∧ zFrS S S' ∧ zFrM M M' := by
  have hl := zCI_len h.ci (w := w) (by omega) (by omega)
  obtain ⟨Q3, S3, M3, p1, p2, p3, p4, p5⟩ := sim_forget12 N hN hw (Q w).length hl k10 (Q w).length N N 0 c Q S M h rfl (by omega) (by omega) (by omega) (by omega)
  refine ⟨Q3, S3, M3, ?_, p2, p3.weak (by omega), p4, p5⟩
  unfold fX3_forget zg zl
  dsimp only
  rw [if_pos (by omega), show ((w : Int)).toNat = w by omega, zCI_size h.ci (w := w) (by omega) (by omega)]
  exact p1
/-- trim, whole -/
theorem sim_trim (N : Nat) (hN : 6000 < N) {e : Bool} {b c : Int} {Q : Nat → List Nat} {S M : zM} (h : zSim e b c Q S M) (hc : c ≤ 1900000000) :
    ∃ Q' S' M', fX3_trim N S = some S' ∧ fX8_trim N M = some M' ∧ zSim e b (c + 6000) Q' S' M' ∧ zFrS S S' ∧ zFrM M M' := by
  have hl := zCI_len h.ci (w := 2) (by omega) (by omega)
  obtain ⟨Q1, S1, M1, a1, a2, a3, a4, a5⟩ := sim_demote2 N (by omega) 400 N N 0 c Q S M h hl (by omega) (by omega) (by omega) (by omega)
  obtain ⟨z0, z4⟩ := zms_pos a3
  obtain ⟨Q2, S2, M2, b1, b2, b3, b4, b5⟩ := sim_room2 N (by omega) 4400 N N 0 (c + (400 : Nat)) Q1 S1 M1 a3 (by omega) (by omega) (by omega) (by omega) (by omega)
  obtain ⟨Q3, S3, M3, c1, c2, c3, c4, c5⟩ := sim_forget N (by omega) (w := 3) (Or.inl rfl) (fun x1 M0 => fX8_trim_10 N (N - 1) x1 M0) b3 (by omega)
  obtain ⟨Q4, S4, M4, d1, d2, d3, d4, d5⟩ := sim_forget N (by omega) (w := 4) (Or.inr rfl) (fun x1 M0 => fX8_trim_10 N (N - 2) x1 M0) c3 (by omega)
  refine ⟨Q4, S4, M4, ?_, ?_, d3.weak (by omega), ((a4.tr b4).tr c4).tr d4, ((a5.tr b5).tr c5).tr d5⟩
  · have a1 : fX3_demote N S = some S1 := a1
    have b1 : fX3_makeRoom N S1 = some S2 := b1
    have c1 : fX3_forget N 3 S2 = some S3 := c1
    have d1 : fX3_forget N 4 S3 = some S4 := d1
    unfold fX3_trim zc
    rw [a1]
    dsimp only
    rw [b1]
    dsimp only
    rw [c1]
    dsimp only
    rw [d1]
  · have a2 : fX8_sinks N M = some M1 := a2
    have b2 : fX8_lets N M1 = some M2 := b2
    have c2 : fX8_trim_15 N (fun x1 M0 => fX8_trim_10 N (N - 1) x1 M0) N 3 M2 = fX8_trim_10 N (N - 1) 4 M3 := c2
    have d2 : fX8_trim_15 N (fun x1 M0 => fX8_trim_10 N (N - 2) x1 M0) N 4 M3 = fX8_trim_10 N (N - 2) 5 M4 := d2
    have st : ∀ (n : Nat) (x : Int) (M0 : zM), 0 < n → fX8_trim_10 N n x M0 = sX8_trim_10 N (fun x1 M0 => fX8_trim_10 N (n - 1) x1 M0) x M0 := by
      intro n x M0 hn
      obtain ⟨n, rfl⟩ : ∃ m, n = m + 1 := ⟨n - 1, by omega⟩
      rfl
    unfold fX8_trim zc zl
    rw [a2]
    dsimp only
    rw [b2]
    dsimp only
    rw [st N 3 M2 (by omega)]
    unfold sX8_trim_10 zg zi
    rw [if_pos (by decide), if_neg (by decide), c2, st (N - 1) 4 M3 (by omega)]
    unfold sX8_trim_10 zg zi
    rw [if_pos (by decide), if_neg (by decide), show N - 1 - 1 = N - 2 by omega, d2, st (N - 2) 5 M4 (by omega)]
    unfold sX8_trim_10 zg zi
    rw [if_pos (by decide), if_pos (by decide)]
