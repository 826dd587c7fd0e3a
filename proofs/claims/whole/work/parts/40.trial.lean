/-! trials: run, victim, would, need, odds -/
theorem zRv_20 {S S' : zM} (h : zRv S) (he : S' 15 = S 15) : zRv S' := zRv_rows h he
/-- a trace is run, on the store at o -/
theorem x_runs (N : Nat) (hN : 6000 < N) {is : List Nat} {o t : Nat} (nd : va_nd is = true) (hl : is.length = 25) (ho : ∀ r, r ≤ 20 → is.getD r 0 = r + o) (ht : ∀ r, r ≤ 3 → is.getD (21 + r) 0 = r + (46 + 4 * t)) (ht6 : t < 6) {b c : Int} {Q : Nat → List Nat} {MX MM : zM}
    (hs : zSim false b c Q (zsh o MX) MM) (hv : zRv (zsh o MX)) (hT : zTre t (zsh (46 + 4 * t) MX) MM) (hc : c + 120020 ≤ 1899990000) :
    ∃ r Q' M' MM', fX3_perform N (zpk is MX) = some (r, M') ∧ fX8_runs N (t : Int) MM = some (r, MM') ∧ zSim false b (c + 120020) Q' (zsh o (zpt is MX M')) MM' ∧ zRv (zsh o (zpt is MX M')) ∧ (∀ r, ¬ (o ≤ r ∧ r ≤ o + 20) → zpt is MX M' r = MX r) ∧ zsh o (zpt is MX M') 1 0 = zsh o MX 1 0 ∧ zFrM MM MM' ∧ 0 ≤ r ∧ r ≤ 20 := by
  have p20 : ∀ r, r ≤ 20 → zpk is MX r = zsh o MX r := fun r hr => by
    show MX (is.getD r 0) = MX (r + o)
    rw [ho r hr]
  have pT : ∀ r, r ≤ 3 → zsh 21 (zpk is MX) r = zsh (46 + 4 * t) MX r := fun r hr => by
    show MX (is.getD (r + 21) 0) = MX (r + (46 + 4 * t))
    rw [Nat.add_comm r 21, ht r hr]
  obtain ⟨r, Q', M', MM', a1, a2, a3, a4, a5, a6, a7, a8, a9, a10⟩ := sim_runs N hN (M0 := zpk is MX) ht6 (zSim_rows hs (fun r hr => by rw [zpk21 hr, p20 r hr])) (zTre_fr hT pT (fun _ _ _ => ⟨rfl, rfl, rfl⟩) rfl) hc
  have at' : ∀ r, r ≤ 20 → zsh o (zpt is MX M') r = M' r := by
    intro r hr
    have h1 : is[r]? = some (r + o) := by
      have := ho r hr
      rw [List.getD_eq_getElem?_getD, List.getElem?_eq_getElem (by omega)] at this
      rw [List.getElem?_eq_getElem (by omega)]
      exact congrArg some this
    exact zpt_at nd h1
  refine ⟨r, Q', M', MM', a1, a2, zSim_rows a3 (fun r hr => by rw [zpk21 hr, at' r hr]), zRv_rows (a10 (zRv_rows hv (p20 15 (by decide)))) (at' 15 (by decide)), fun r hr => zpt_keep (fun j hj => ?_), ?_, a6, a8, a9⟩
  · have hj25 : j < 25 := by
      have := (List.getElem?_eq_some_iff.mp hj).1
      omega
    have hg : is.getD j 0 = r := by rw [List.getD_eq_getElem?_getD, hj]; rfl
    by_cases hj20 : j ≤ 20
    · have := ho j hj20
      omega
    · rw [a4 j (by omega)]
      show MX (is.getD j 0) = MX r
      rw [hg]
  · rw [at' 1 (by decide), a5, p20 1 (by decide)]
theorem is1T : ∀ t : Nat, t < 6 → va_nd (is_1n21_f46n4 t) = true ∧ (∀ r, r ≤ 20 → (is_1n21_f46n4 t).getD r 0 = r + 1) ∧ ∀ r, r ≤ 3 → (is_1n21_f46n4 t).getD (21 + r) 0 = r + (46 + 4 * t) := by decide
theorem is22T : ∀ t : Nat, t < 6 → va_nd (is_22n21_f46n4 t) = true ∧ (∀ r, r ≤ 20 → (is_22n21_f46n4 t).getD r 0 = r + 22) ∧ ∀ r, r ≤ 3 → (is_22n21_f46n4 t).getD (21 + r) 0 = r + (46 + 4 * t) := by decide
theorem e_trace (N : Nat) {K : Bool} {c : Int} {MX MM : zM} (h : zInv K c MX MM) {a1 : Int} (h1 : zR a1) : ∃ n : Nat, n ≤ 6 ∧ fX7_isTrace N a1 MX = some ((if 0 ≤ a1 ∧ a1 < n then 1 else 0), MX) ∧ fX8_isTrace N a1 MM = some ((if 0 ≤ a1 ∧ a1 < n then 1 else 0), MM) ∧ ∀ t, t < n → zTre t (zsh (46 + 4 * t) MX) MM := by
  obtain ⟨-, -, -, ⟨n, n1, n2, n3, n4⟩, -⟩ := h
  refine ⟨n, n1, ?_, ?_, n4⟩
  · unfold fX7_isTrace zg zi
    rw [n2, if_pos h1]
    by_cases q : a1 < 0
    · rw [if_pos q, if_neg (by omega)]
    · rw [if_neg q, if_pos (show zR (n : Int) by constructor <;> omega)]
      by_cases q2 : (n : Int) ≤ a1
      · rw [if_pos q2, if_neg (by omega)]
      · rw [if_neg q2, if_pos (by omega)]
  · unfold fX8_isTrace zg zc
    rw [n3, e_in N h1 (by decide) (by constructor <;> omega)]
    dsimp only
    by_cases q : 0 ≤ a1 ∧ a1 < (n : Int)
    · rw [if_pos q, if_pos (show 0 ≤ a1 ∧ a1 ≤ (n : Int) - 1 by omega), if_pos (Or.inr rfl)]
    · rw [if_neg q, if_neg (show ¬ (0 ≤ a1 ∧ a1 ≤ (n : Int) - 1) by omega), if_pos (Or.inl rfl)]
theorem st_run (N : Nat) (hN : 6000 < N) {K : Bool} {c : Int} {MX MM : zM} (h : zInv K c MX MM) (hc : c + 130000 ≤ 1899990000) {a1 : Int} (h1 : zR a1) : zOk K (c + 130000) (fX7_run N a1 MX) (fX8_run N a1 MM) := by
  obtain ⟨⟨Q, hs⟩, hv⟩ := id h.1
  have hw := h.weak (c' := c + 130000) (by omega)
  obtain ⟨n, n6, e1, e2, eT⟩ := e_trace N h h1
  unfold fX7_run fX8_run
  refine zOk_2l e1 (zOk_2r e2 ?_)
  by_cases hk : 0 ≤ a1 ∧ a1 < n
  · rw [if_pos hk]
    obtain ⟨t, rfl⟩ : ∃ t : Nat, a1 = (t : Int) := ⟨a1.toNat, by omega⟩
    have ht6 : t < 6 := by omega
    obtain ⟨i1, i2, i3⟩ := is1T t ht6
    obtain ⟨r, Q', M', MM', b1, b2, b3, b4, b5, b6, b7, b8, b9⟩ := x_runs N hN i1 rfl i2 i3 ht6 hs hv (eT t (by omega)) (by omega)
    refine zOk_gl (by decide) (zOk_fl (by decide) (zOk_gl (by omega) (zOk_gr (by decide) (zOk_fr (by decide) (zOk_2r b2 ?_)))))
    rw [show ((t : Int)).toNat = t by omega]
    exact zOk_2l b1 (zOk_ll (zOk_s rfl (zInv_live h ⟨⟨Q', b3.weak (by omega)⟩, b4⟩ (fun r hr => b5 r (by omega)) b7.off (by omega))))
  · rw [if_neg hk]
    exact zOk_gl (by decide) (zOk_tl rfl (zOk_gr (by decide) (zOk_tr rfl (zOk_s rfl hw))))
/-- between trials: the reference's row is as it was, and so is what it saved -/
def zTri (MX MM MX1 MM1 : zM) : Prop := (∀ r, ¬ (22 ≤ r ∧ r ≤ 42) → MX1 r = MX r) ∧ (∀ i, i < 3253 → MM1 1 i = MM 1 i) ∧ (∀ i, i < 3253 → MM1 2 i = MM 1 i) ∧ zOffM MM MM1 ∧ 0 ≤ MM1 0 5 ∧ MM1 0 5 ≤ 400
theorem zSame.rf {S : zM} : zSame S S := ⟨fun _ _ _ => rfl, rfl, rfl⟩
theorem zInv_back {K : Bool} {c c' : Int} {MX MM MX1 MM1 : zM} (h : zInv K c MX MM) (hX : ∀ r, ¬ (22 ≤ r ∧ r ≤ 42) → MX1 r = MX r) (hM : ∀ i, i < 3253 → MM1 1 i = MM 1 i) (ho : zOffM MM MM1) (h5 : 0 ≤ MM1 0 5 ∧ MM1 0 5 ≤ 400) (hc : c ≤ c') : zInv K c' MX1 MM1 := by
  obtain ⟨⟨⟨Q, hs⟩, hv⟩, hr⟩ := id h
  refine zInv_live h ⟨⟨Q, ?_⟩, zRv_rows hv (hX 16 (by decide))⟩ (fun r hr => hX r (by omega)) ho hc
  exact (zSim_same (zSim_rows hs (fun r hr => hX (r + 1) (by omega))) zSame.rf hM h5).weak hc
theorem zTri.inv {K : Bool} {c c' : Int} {MX MM MX1 MM1 : zM} (t : zTri MX MM MX1 MM1) (h : zInv K c MX MM) (hc : c ≤ c') : zInv K c' MX1 MM1 := zInv_back h t.1 t.2.1 t.2.2.2.1 t.2.2.2.2 hc
/-- the reference saves its row: trials may begin -/
theorem tri_save (N : Nat) (hN : 6000 < N) {K : Bool} {c : Int} {MX MM : zM} (h : zInv K c MX MM) : ∃ R, fX8_copy N (zpk is_1n1_2n1 MM) = some R ∧ zTri MX MM MX (zpt is_1n1_2n1 MM R) := by
  obtain ⟨⟨⟨Q, hs⟩, hv⟩, hr⟩ := id h
  obtain ⟨R, b1, b2, b3⟩ := r_copy N hN (a := 1) (b := 2) (by decide) MM
  refine ⟨R, b1, fun _ _ => rfl, fun i _ => ?_, fun i hi => b3 i hi, ⟨fun r hr _ => b2 r (by omega), b2 3 (by decide), fun j _ => ?_⟩, ?_⟩
  · show zpt [1, 2] MM R 1 i = MM 1 i
    rw [b2 1 (by decide)]
  · show zpt [1, 2] MM R 0 j = MM 0 j
    rw [b2 0 (by decide)]
  · show 0 ≤ zpt [1, 2] MM R 0 5 ∧ zpt [1, 2] MM R 0 5 ≤ 400
    rw [b2 0 (by decide)]
    exact hs.gg.1
/-- the reference takes its row back: the trial is over -/
theorem tri_back (N : Nat) (hN : 6000 < N) {MX MM MX1 MM1 MX2 MM2 : zM} (t : zTri MX MM MX1 MM1) (hX : ∀ r, ¬ (22 ≤ r ∧ r ≤ 42) → MX2 r = MX1 r) (hM : zOffM MM1 MM2) (h2 : MM2 2 = MM1 2) (h5 : 0 ≤ MM2 0 5 ∧ MM2 0 5 ≤ 400) : ∃ R, fX8_copy N (zpk is_2n1_1n1 MM2) = some R ∧ zTri MX MM MX2 (zpt is_2n1_1n1 MM2 R) := by
  obtain ⟨R, b1, b2, b3⟩ := r_copy N hN (a := 2) (b := 1) (by decide) MM2
  obtain ⟨t1, t2, t3, t4, t5⟩ := t
  refine ⟨R, b1, fun r hr => (hX r hr).trans (t1 r hr), fun i hi => ?_, fun i hi => ?_, t4.tr (hM.tr ⟨fun r hr _ => b2 r (by omega), b2 3 (by decide), fun j _ => ?_⟩), ?_⟩
  · show zpt [2, 1] MM2 R 1 i = MM 1 i
    rw [b3 i hi, h2, t3 i hi]
  · show zpt [2, 1] MM2 R 2 i = MM 1 i
    rw [b2 2 (by decide), h2, t3 i hi]
  · show zpt [2, 1] MM2 R 0 j = MM2 0 j
    rw [b2 0 (by decide)]
  · show 0 ≤ zpt [2, 1] MM2 R 0 5 ∧ zpt [2, 1] MM2 R 0 5 ≤ 400
    rw [b2 0 (by decide)]
    exact h5
/-- the trial store becomes a copy of the live one -/
theorem tri_copy (N : Nat) (hN : 6000 < N) {K : Bool} {c : Int} {MX MM MX1 MM1 : zM} (h : zInv K c MX MM) (t : zTri MX MM MX1 MM1) : ∃ Q M', fX3_copyFrom N (zpk is_22n21_1n21 MX1) = some M' ∧ zSim false 0 c Q (zsh 22 (zpt is_22n21_1n21 MX1 M')) MM1 ∧ zRv (zsh 22 (zpt is_22n21_1n21 MX1 M')) ∧ (∀ r, ¬ (22 ≤ r ∧ r ≤ 42) → zpt is_22n21_1n21 MX1 M' r = MX1 r) ∧ zSame (zsh 1 MX1) (zsh 22 (zpt is_22n21_1n21 MX1 M')) ∧ (Q 1).length + (Q 2).length ≤ 400 := by
  obtain ⟨M', a1, a2, a3⟩ := x_copy N hN (is := is_22n21_1n21) (o := 22) (s := 1) (by decide) (by decide) (by decide) (by decide) MX1
  obtain ⟨⟨⟨Q, hs⟩, hv⟩, -⟩ := t.inv h (Int.le_refl c)
  refine ⟨Q, M', a1, zSim_same hs a3 (fun _ _ => rfl) hs.gg.1, zRv_same hv a3, a2, a3, ?_⟩
  have n1 := zCI_nd hs.ci (w := 1) (by omega) (by omega)
  have n2 := zCI_nd hs.ci (w := 2) (by omega) (by omega)
  have hd : (Q 1 ++ Q 2).Nodup := List.nodup_append.mpr ⟨n1, n2, fun a ha b hb hab => by
    subst hab
    have q1 := ((zCI_mem hs.ci (w := 1) (by omega) (by omega)).mp ha).2
    have q2 := ((zCI_mem hs.ci (w := 2) (by omega) (by omega)).mp hb).2
    omega⟩
  have := zn_le hd (n := 400) (fun k hk => by
    rcases List.mem_append.mp hk with q | q
    · exact ((zCI_mem hs.ci (w := 1) (by omega) (by omega)).mp q).1
    · exact ((zCI_mem hs.ci (w := 2) (by omega) (by omega)).mp q).1)
  rw [List.length_append] at this
  exact this
/-- a rehearsal with other settings -/
theorem tri_reh (N : Nat) (hN : 6000 < N) {K : Bool} {c : Int} {MX MM MX1 MM1 : zM} (h : zInv K c MX MM) (t : zTri MX MM MX1 MM1) (hc : c ≤ 1900000000) {cap bor : Int} (h1 : 0 ≤ cap ∧ cap ≤ 99) (h2 : 0 ≤ bor ∧ bor ≤ 99) (e : Bool) (he : e = true → MM1 0 5 = 0) :
    ∃ Q MX2 MM2, fX7_rehearse N cap bor MX1 = some MX2 ∧ fX8_trim N (zup (zup MM1 1 3200 cap) 1 3201 bor) = some MM2 ∧ zSim e (if e then MX 17 1 else 0) (c + 6000) Q (zsh 22 MX2) MM2 ∧ zRv (zsh 22 MX2) ∧ (∀ r, ¬ (22 ≤ r ∧ r ≤ 42) → MX2 r = MX1 r) ∧ zFrM MM1 MM2 := by
  obtain ⟨Q, M', a1, a2, a3, a4, a5, a6⟩ := tri_copy N hN h t
  obtain ⟨X, hX⟩ : ∃ X, X = zpt is_22n21_1n21 MX1 M' := ⟨_, rfl⟩
  rw [← hX] at a2 a3 a4 a5
  have s1 := zSim_setg a2 (i := 0) (by omega) cap (zRs_up a2.rs (by omega))
  have s2 := zSim_setg s1 (i := 1) (by omega) bor (zRs_up s1.rs (by omega))
  have e1 : zsh 22 (zup X 23 0 cap) = zup (zsh 22 X) 1 0 cap := zsh_up (r := 1)
  have e2 : zsh 22 (zup (zup X 23 0 cap) 23 1 bor) = zup (zsh 22 (zup X 23 0 cap)) 1 1 bor := zsh_up (r := 1)
  rw [← e1, ← e2] at s2
  have s3 : zSim e (if e then MX 17 1 else 0) c Q (zsh 22 (zup (zup X 23 0 cap) 23 1 bor)) (zup (zup MM1 1 (3200 + 0) cap) 1 (3200 + 1) bor) := by
    cases e with
    | false => exact s2
    | true =>
      obtain ⟨z1, z2, z3, z4, z5, z6, z7, z8, z9⟩ := s2
      refine ⟨z1, z2, z3, z4, z5, z6, z7, z8, z9.1, fun _ => ?_⟩
      have tot : zsh 22 (zup (zup X 23 0 cap) 23 1 bor) 16 1 = MX 17 1 := by
        rw [e2, zup_other (by decide), e1, zup_other (by decide), a5.2.1]
        show MX1 17 1 = MX 17 1
        rw [t.1 17 (by decide)]
      have g2 : 0 ≤ MX 17 1 := by
        obtain ⟨⟨⟨Q0, h0⟩, -⟩, -⟩ := h
        exact h0.eg.2.1
      rw [tot, zup_other (by decide), zup_other (by decide), he rfl]
      exact ⟨g2, by rw [if_pos rfl]; omega, by rw [if_pos rfl]; omega, fun j hj => by rw [if_pos rfl] at hj; omega⟩
  have hv : zRv (zsh 22 (zup (zup X 23 0 cap) 23 1 bor)) := zRv_rows a3 (by rw [e2, zup_other (by decide), e1, zup_other (by decide)])
  obtain ⟨Q', S', M2, c1, c2, c3, c4, c5⟩ := sim_trim N hN (S := zpk is_22n21 (zup (zup X 23 0 cap) 23 1 bor)) (zSim_rows s3 (fun r hr => zpk_22 hr)) hc
  refine ⟨Q', zpt is_22n21 (zup (zup X 23 0 cap) 23 1 bor) S', M2, ?_, c2, zSim_rows c3 (fun r hr => zpt_22 hr), ?_, fun r hr => ?_, (zFrM.up.tr zFrM.up).tr c5⟩
  · unfold fX7_rehearse zc zl
    rw [a1]
    dsimp only
    rw [← hX, c1]
  · refine zRv_rows hv ?_
    rw [zpt_22 (by decide), c4.2.2, zpk_22 (by decide)]
  · rw [zpt_22o (by omega), zup_other (by omega), zup_other (by omega)]
    exact a4 r hr
theorem st_victim (N : Nat) (hN : 6000 < N) {K : Bool} {c : Int} {MX MM : zM} (h : zInv K c MX MM) (hc : c + 130000 ≤ 1899990000) {a1 : Int} (h1 : zR a1) : zOk K (c + 130000) (fX7_victim N a1 MX) (fX8_victim N a1 MM) := by
  have hw := h.weak (c' := c + 130000) (by omega)
  unfold fX7_victim fX8_victim
  refine zOk_gl h1 (zOk_gr h1 ?_)
  by_cases k0 : 0 ≤ a1
  · refine zOk_tl k0 (zOk_tr k0 ?_)
    obtain ⟨R, r1, r2⟩ := tri_save N hN h
    obtain ⟨M4, hM4⟩ : ∃ M4, M4 = zpt is_1n1_2n1 MM R := ⟨_, rfl⟩
    rw [← hM4] at r2
    have t5 : zTri MX MM MX (zup M4 0 5 0) := by
      obtain ⟨x1, x2, x3, x4, x5⟩ := r2
      refine ⟨x1, fun i hi => by rw [zup_other (by decide)]; exact x2 i hi, fun i hi => by rw [zup_other (by decide)]; exact x3 i hi, x4.tr ⟨fun r hr _ => zup_other (by omega), zup_other (by decide), fun j hj => by rw [zup_self, if_neg (by omega)]⟩, ?_⟩
      rw [zup_eq]; omega
    obtain ⟨Q, MX2, MM2, c1, c2, c3, c4, c5, c6⟩ := tri_reh N hN h t5 (by omega) (cap := 0) (bor := 0) (by omega) (by omega) true (fun _ => zup_eq _ _ _ _)
    rw [zup_swap (zup M4 0 5 0) (k := 1) (i := 3200) (k' := 1) (i' := 3201) (Or.inr (by decide))] at c2
    obtain ⟨gg1, gg2⟩ := c3.gg
    obtain ⟨y1, y2, y3, y4⟩ := gg2 rfl
    rw [if_pos rfl] at y1 y2 y3 y4
    have e17 : MX2 17 1 = MX 17 1 := by rw [c5 17 (by decide)]
    have y2 : MM2 0 5 = MX2 38 1 - MX 17 1 := y2
    have g3 := c3.eg.2.2.1
    have g3 : MX2 38 1 ≤ c + 6000 := g3
    refine zOk_cl c1 (zOk_ll (zOk_ll (zOk_cr r1 (zOk_lr (zOk_lr (zOk_lr (zOk_lr ?_)))))))
    rw [← hM4]
    refine zOk_cr c2 ?_
    rw [e17, y2]
    refine zOk_gl (by constructor <;> omega) (zOk_gr (by constructor <;> omega) ?_)
    have fin : ∀ v v' : Int, v = v' → zOk K (c + 130000) (some (v, MX2)) (sX8_victim_63 N v' MM2) := by
      intro v v' hvv
      unfold sX8_victim_63
      obtain ⟨R3, q1, q2⟩ := tri_back N hN t5 c5 c6.off (c6.1 2 (by decide) (by decide) (by decide)) gg1
      exact zOk_lr (zOk_cr q1 (zOk_lr (zOk_s hvv (q2.inv h (by omega)))))
    by_cases kl : MX2 38 1 - MX 17 1 ≤ a1
    · exact zOk_tl kl (zOk_tr kl (fin _ _ rfl))
    · refine zOk_fl kl (zOk_fr kl (zOk_gr (by omega) ?_))
      obtain ⟨j, rfl⟩ : ∃ j : Nat, a1 = (j : Int) := ⟨a1.toNat, by omega⟩
      have ea : fX1_at N (MX 17 1 + (j : Int)) (zpk is_38n2 MX2) = some (MX2 39 ((MX 17 1 + (j : Int)) % 400).toNat, zpk is_38n2 MX2) := by
        unfold fX1_at zc zg
        rw [f_floorMod N (by omega)]
        dsimp only
        rw [if_pos (by omega)]
        rfl
      refine zOk_2l ea (zOk_ll ?_)
      rw [zpt_zpk]
      refine fin _ _ ?_
      rw [show ((j : Int)).toNat = j by omega]
      exact (y4 j (by show (j : Int) < MX2 38 1 - MX 17 1; omega)).symm
  · exact zOk_fl k0 (zOk_fr k0 (zOk_s rfl hw))
