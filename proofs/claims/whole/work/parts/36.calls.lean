/-! further calls on the live store -/
theorem zsh_up {o r k : Nat} {v : Int} {M : zM} : zsh o (zup M (r + o) k v) = zup (zsh o M) r k v := by
  funext a b
  show zup M (r + o) k v (a + o) b = _
  rw [zup_at, zup_at]
  by_cases h : a = r ∧ b = k
  · rw [if_pos h, if_pos (by omega)]
  · rw [if_neg h, if_neg (by omega)]; rfl
theorem zup_off {M : zM} {r k : Nat} {v : Int} (hr : 1 ≤ r ∧ r ≤ 42) : zOff M (zup M r k v) := fun r' h => zup_other (by omega)
theorem st_trim (N : Nat) (hN : 6000 < N) {c : Int} {MX MM : zM} (h : zLive c MX MM) (hc : c ≤ 1900000000) : ∃ S' M', fX3_trim N (zpk is_1n21 MX) = some S' ∧ fX8_trim N MM = some M' ∧ zLive (c + 6000) (zpt is_1n21 MX S') M' ∧ zFrM MM M' := by
  obtain ⟨⟨Q, hs⟩, hv⟩ := zLive_pk h
  obtain ⟨Q', S', M', a1, a2, a3, a4, a5⟩ := sim_trim N hN hs hc
  exact ⟨S', M', a1, a2, zLive_pt a3 (zRv_rows hv a4.2.2), a5⟩
theorem zRs_up {S : zM} {i : Nat} {v : Int} (h : zRs S) (hv : (i = 0 ∧ 0 ≤ v ∧ v ≤ 99) ∨ (i = 1 ∧ 0 ≤ v ∧ v ≤ 99) ∨ (i = 2 ∧ 1 ≤ v ∧ v ≤ 9) ∨ (i = 3 ∧ 0 ≤ v ∧ v ≤ 9)) : zRs (zup S 1 i v) := by
  obtain ⟨a0, a1, a2, a3⟩ := h
  unfold zRs
  rw [zup_self, zup_self, zup_self, zup_self]
  rcases hv with ⟨rfl, q⟩ | ⟨rfl, q⟩ | ⟨rfl, q⟩ | ⟨rfl, q⟩
  · exact ⟨by rw [if_pos rfl]; exact q, by rw [if_neg (by decide)]; exact a1, by rw [if_neg (by decide)]; exact a2, by rw [if_neg (by decide)]; exact a3⟩
  · exact ⟨by rw [if_neg (by decide)]; exact a0, by rw [if_pos rfl]; exact q, by rw [if_neg (by decide)]; exact a2, by rw [if_neg (by decide)]; exact a3⟩
  · exact ⟨by rw [if_neg (by decide)]; exact a0, by rw [if_neg (by decide)]; exact a1, by rw [if_pos rfl]; exact q, by rw [if_neg (by decide)]; exact a3⟩
  · exact ⟨by rw [if_neg (by decide)]; exact a0, by rw [if_neg (by decide)]; exact a1, by rw [if_neg (by decide)]; exact a2, by rw [if_pos rfl]; exact q⟩
theorem zLive_setg {c : Int} {MX MM : zM} (h : zLive c MX MM) {i : Nat} {v : Int} (hv : (i = 0 ∧ 0 ≤ v ∧ v ≤ 99) ∨ (i = 1 ∧ 0 ≤ v ∧ v ≤ 99) ∨ (i = 2 ∧ 1 ≤ v ∧ v ≤ 9) ∨ (i = 3 ∧ 0 ≤ v ∧ v ≤ 9)) : zLive c (zup MX 2 i v) (zup MM 1 (3200 + i) v) := by
  obtain ⟨⟨Q, hs⟩, hr⟩ := h
  have e : zsh 1 (zup MX 2 i v) = zup (zsh 1 MX) 1 i v := zsh_up (r := 1)
  refine ⟨⟨Q, ?_⟩, zRv_rows hr ?_⟩
  · rw [e]
    exact zSim_setg hs (by omega) v (zRs_up hs.rs hv)
  · rw [e, zup_other (by decide)]
theorem e_least (N : Nat) {a : Int} (h : zR a) : fX7_leastOf N a = some (if a = 0 ∨ a = 2 then 1 else 0) := by
  unfold fX7_leastOf sX7_leastOf_9 zg zi
  rw [if_pos h]
  by_cases h0 : a = 0
  · rw [if_pos h0, if_pos (Or.inl h0)]
  · rw [if_neg h0]
    by_cases h2 : a = 2
    · rw [if_pos h2, if_pos (Or.inr h2)]
    · rw [if_neg h2, if_neg (by omega)]
theorem e_most (N : Nat) {a : Int} {M : zM} (h : zR a) (h0 : 0 ≤ a) (h4 : a < 4) : fX7_mostOf N a M = some ((if a = 0 then 99 else if a = 1 then M 2 0 else 9), M) := by
  unfold fX7_mostOf zg zi
  rw [if_pos h]
  by_cases q : 2 < a
  · rw [if_pos (Or.inr q), if_neg (by omega), if_neg (by omega)]
  · rw [if_neg (by omega)]
    by_cases q0 : a = 0
    · rw [if_pos q0, if_pos q0]
    · rw [if_neg q0, if_neg q0]
      by_cases q1 : a = 1
      · rw [if_pos q1, if_pos q1]
      · rw [if_neg q1, if_neg q1, if_pos (by omega)]
/-- set -/
theorem st_set (N : Nat) (hN : 6000 < N) {K : Bool} {c : Int} {MX MM : zM} (h : zInv K c MX MM) (hc : c + 130000 ≤ 1899990000) {a1 a2 : Int} (h1 : zR a1) (h2 : zR a2) : zOk K (c + 130000) (fX7_set N a1 a2 MX) (fX8_set N a1 a2 MM) := by
  obtain ⟨⟨Q, hs⟩, hv⟩ := id h.1
  have hw := h.weak (c' := c + 130000) (by omega)
  obtain ⟨⟨p0, p1, p2, p3⟩, -⟩ := hs.es
  obtain ⟨⟨b0, b0'⟩, ⟨b1, b1'⟩, ⟨b2, b2'⟩, ⟨b3, b3'⟩⟩ := hs.rs
  have p0 : MM 1 3200 = MX 2 0 := p0
  have p1 : MM 1 3201 = MX 2 1 := p1
  have p2 : MM 1 3202 = MX 2 2 := p2
  have p3 : MM 1 3203 = MX 2 3 := p3
  have b0 : 0 ≤ MX 2 0 := b0
  have b0' : MX 2 0 ≤ 99 := b0'
  have b1 : 0 ≤ MX 2 1 := b1
  have b1' : MX 2 1 ≤ 99 := b1'
  have x86 : ∀ (v : Int) (M0 M1 : zM), zLive c M0 M1 → zOff MX M0 → zOffM MM M1 → ∀ y, (∀ M', fX8_trim N M1 = some M' → y = some (v, M')) → zOk K (c + 130000) (sX7_set_86 N v M0) y := by
    intro v M0 M1 hl hx hm y hy
    obtain ⟨S', M', t1, t2, t3, t4⟩ := st_trim N hN hl (by omega)
    unfold sX7_set_86 sX7_set_93
    rw [hy M' t2]
    exact zOk_cl t1 (zOk_ll (zOk_s rfl (zInv_live h (t3.weak (by omega)) (hx.tr zOff.pt1) (hm.tr t4.off) (by omega))))
  unfold fX7_set fX8_set
  refine zOk_gl h1 (zOk_cr (e_in N h1 (by decide) (by decide)) ?_)
  by_cases k0 : a1 < 0
  · rw [if_neg (show ¬ (0 ≤ a1 ∧ a1 ≤ 3) by omega)]
    exact zOk_tl k0 (zOk_gr (by decide) (zOk_tr rfl (zOk_s rfl hw)))
  · refine zOk_fl k0 ?_
    by_cases k4 : a1 < 4
    · rw [if_pos (show (0 ≤ a1 ∧ a1 ≤ 3) by omega)]
      refine zOk_tl k4 (zOk_gr (by decide) (zOk_fr (by decide) (zOk_gr h1 (zOk_cl (e_least N h1) (zOk_gl h2 ?_)))))
      have hmost := e_most N (M := MX) h1 (by omega) k4
      -- the range of what is set, on both sides
      obtain ⟨lo, hlo⟩ : ∃ lo, lo = (if a1 = 0 ∨ a1 = 2 then (1 : Int) else 0) := ⟨_, rfl⟩
      obtain ⟨hi, hhi⟩ : ∃ hi, hi = (if a1 = 0 then 99 else if a1 = 1 then MX 2 0 else 9) := ⟨_, rfl⟩
      rw [← hlo]
      rw [← hhi] at hmost
      have hlo01 : 0 ≤ lo ∧ lo ≤ 1 := by rw [hlo]; split <;> omega
      have hhi99 : 0 ≤ hi ∧ hi ≤ 99 := by
        rw [hhi]
        split
        · omega
        · split <;> omega
      obtain ⟨i, hi'⟩ : ∃ i : Nat, a1 = (i : Int) := ⟨a1.toNat, by omega⟩
      have i4 : i < 4 := by omega
      have ei : ((i : Int)).toNat = i := by omega
      have e32 : ((3200 : Int) + (i : Int)).toNat = 3200 + i := by omega
      have mr : ∀ y1 y2, (y1 = if lo ≤ a2 ∧ a2 ≤ hi then (1 : Int) else 0) → y2 = sX8_set_68 N a1 a2 y1 MM → zOk K (c + 130000) (zg (zR lo) (zi (a2 < lo) (some ((-2 : Int), MX)) (zc2 (fX7_mostOf N a1 MX) fun r8 M7 =>
          zg (zR r8) <| zi (a2 ≤ r8) (
            zg (0 ≤ a1 ∧ a1 < (4:Int)) <|
            zl ((M7 2 a1.toNat)) fun v11 =>
            zl (zup M7 2 a1.toNat a2) fun M12 =>
            zi (a1 = 0) (
              zg (zR (M12 2 1)) <|
              zl (zup M12 2 1 (zmin (M12 2 1) a2)) fun M18 =>
              sX7_set_77 N a1 v11 M18) <|
            sX7_set_77 N a1 v11 M12) <| some ((-2:Int), M7)))) y2 := by
        intro y1 y2 hy1 hy2
        rw [hy2]
        unfold sX8_set_68
        refine zOk_gl (by constructor <;> omega) (zOk_lr ?_)
        by_cases ok : lo ≤ a2 ∧ a2 ≤ hi
        · rw [if_pos ok] at hy1
          rw [hy1]
          refine zOk_gr (by decide) (zOk_fr (by decide) (zOk_fl (by omega) (zOk_2l hmost (zOk_gl (by constructor <;> omega) (zOk_tl ok.2 (zOk_gl (by omega) (zOk_gr (by omega) (zOk_lr (zOk_ll (zOk_ll (zOk_gr h1 ?_))))))))))) 
          rw [hi', ei, e32]
          have hold : MX 2 i = MM 1 (3200 + i) := by
            obtain rfl | rfl | rfl | rfl : i = 0 ∨ i = 1 ∨ i = 2 ∨ i = 3 := by omega
            · exact p0.symm
            · exact p1.symm
            · exact p2.symm
            · exact p3.symm
          rw [← hold]
          by_cases i0 : i = 0
          · subst i0
            rw [hhi, if_pos (by omega)] at ok
            have hl1 := zLive_setg h.1 (i := 0) (v := a2) (by omega)
            refine zOk_tl (by decide) (zOk_tr (by decide) ?_)
            have e21 : zup MX 2 0 a2 2 1 = MX 2 1 := by rw [zup_self, if_neg (by decide)]
            rw [e21]
            refine zOk_gl (by constructor <;> omega) (zOk_ll ?_)
            have hmin : 0 ≤ zmin (MX 2 1) a2 ∧ zmin (MX 2 1) a2 ≤ 99 := by unfold zmin; split <;> omega
            have hl2 := zLive_setg hl1 (i := 1) (v := zmin (MX 2 1) a2) (by omega)
            unfold sX7_set_77
            refine zOk_gl (by decide) (zOk_tl (by decide) (x86 _ _ _ hl2 ((zup_off (by omega)).tr (zup_off (by omega))) (zFrM.up.off.tr zFrM.up.off) _ (fun M' ht => ?_)))
            unfold fX8_capacity sX8_capacity_40 sX8_set_120 zl zg zi zc
            have e3 : zup MM 1 3200 a2 1 3201 = MX 2 1 := by rw [zup_self, if_neg (by decide), p1]
            dsimp only
            rw [e3, if_pos (by constructor <;> omega), if_pos h2]
            have ht : fX8_trim N (zup (zup MM 1 3200 a2) 1 3201 (zmin (MX 2 1) a2)) = some M' := ht
            unfold zmin at ht
            by_cases hle : MX 2 1 ≤ a2
            · rw [if_pos hle, if_pos (by decide)]
              rw [if_neg (show ¬ a2 < MX 2 1 by omega)] at ht
              rw [show ((3201 : Int)).toNat = 3201 by decide, ht]
            · rw [if_neg hle, if_pos (by decide)]
              rw [if_pos (show a2 < MX 2 1 by omega)] at ht
              rw [show ((3201 : Int)).toNat = 3201 by decide, ht]
          · refine zOk_fl (by omega) (zOk_fr (by omega) (zOk_lr ?_))
            unfold sX7_set_77
            refine zOk_gl (by constructor <;> omega) (zOk_fl (by omega) ?_)
            by_cases i1 : i = 1
            · subst i1
              rw [hhi, if_neg (by omega), if_pos (by omega)] at ok
              have hl1 := zLive_setg h.1 (i := 1) (v := a2) (by omega)
              refine zOk_tl (by decide) (zOk_tr (by decide) (x86 _ _ _ hl1 (zup_off (by omega)) zFrM.up.off _ (fun M' ht => ?_)))
              unfold sX8_set_120 zc
              rw [ht]
            · have ok' : (i = 2 ∧ 1 ≤ a2 ∧ a2 ≤ 9) ∨ (i = 3 ∧ 0 ≤ a2 ∧ a2 ≤ 9) := by
                rw [hhi, if_neg (by omega), if_neg (by omega)] at ok
                rw [hlo] at ok
                by_cases i2 : i = 2
                · rw [if_pos (by omega)] at ok; omega
                · rw [if_neg (by omega)] at ok; omega
              have hl1 := zLive_setg h.1 (i := i) (v := a2) (by omega)
              refine zOk_fl (by omega) (zOk_fr (by omega) ?_)
              unfold sX7_set_93 sX8_set_120
              exact zOk_s rfl (zInv_live h (hl1.weak (by omega)) (zup_off (by omega)) zFrM.up.off (by omega))
        · rw [if_neg ok] at hy1
          rw [hy1]
          refine zOk_gr (by decide) (zOk_tr rfl ?_)
          by_cases q : a2 < lo
          · exact zOk_tl q (zOk_s rfl hw)
          · exact zOk_fl q (zOk_2l hmost (zOk_gl (by constructor <;> omega) (zOk_fl (by omega) (zOk_s rfl hw))))
      by_cases q0 : a1 = 0
      · refine zOk_tr q0 (zOk_cr (e_in N h2 (by decide) (by decide)) (mr _ _ ?_ rfl))
        rw [hlo, hhi, if_pos (Or.inl q0), if_pos q0]
      · refine zOk_fr q0 ?_
        by_cases q1 : a1 = 1
        · refine zOk_tr q1 (zOk_cr (e_in N h2 (by decide) (by constructor <;> omega)) (mr _ _ ?_ rfl))
          rw [hlo, hhi, if_neg (show ¬ (a1 = 0 ∨ a1 = 2) by omega), if_neg q0, if_pos q1, p0]
        · refine zOk_fr q1 ?_
          by_cases q2 : a1 = 2
          · refine zOk_tr q2 (zOk_cr (e_in N h2 (by decide) (by decide)) (mr _ _ ?_ rfl))
            rw [hlo, hhi, if_pos (Or.inr q2), if_neg q0, if_neg q1]
          · refine zOk_fr q2 (zOk_cr (e_in N h2 (by decide) (by decide)) (mr _ _ ?_ rfl))
            rw [hlo, hhi, if_neg (show ¬ (a1 = 0 ∨ a1 = 2) by omega), if_neg q0, if_neg q1]
    · rw [if_neg (show ¬ (0 ≤ a1 ∧ a1 ≤ 3) by omega)]
      exact zOk_fl k4 (zOk_gr (by decide) (zOk_tr rfl (zOk_s rfl hw)))
/-- told -/
theorem st_told (N : Nat) {K : Bool} {c : Int} {MX MM : zM} (h : zInv K c MX MM) {a1 : Int} (h1 : zR a1) : zOk K (c + 130000) (fX7_told N a1 MX) (fX8_told N a1 MM) := by
  obtain ⟨⟨Q, hs⟩, hv⟩ := id h.1
  have hw := h.weak (c' := c + 130000) (by omega)
  obtain ⟨⟨p0, p1, p2, p3⟩, t0, t1, t2, t3, t4⟩ := hs.es
  unfold fX7_told fX8_told
  refine zOk_gl h1 (zOk_cr (e_in N h1 (by decide) (by decide)) ?_)
  by_cases k0 : a1 < 0
  · rw [if_neg (show ¬ (0 ≤ a1 ∧ a1 ≤ 13) by omega)]
    exact zOk_tl k0 (zOk_gr (by decide) (zOk_tr rfl (zOk_s rfl hw)))
  · refine zOk_fl k0 ?_
    by_cases k13 : a1 ≤ 13
    · rw [if_pos (show (0 ≤ a1 ∧ a1 ≤ 13) by omega)]
      refine zOk_tl k13 (zOk_gr (by decide) (zOk_fr (by decide) (zOk_gr h1 ?_)))
      by_cases k4 : 4 ≤ a1
      · refine zOk_tl k4 (zOk_tr k4 ?_)
        by_cases k8 : 8 ≤ a1
        · refine zOk_tl k8 (zOk_tr k8 (zOk_gr (by omega) ?_))
          by_cases kk : 13 ≤ a1
          · refine zOk_tl kk (zOk_s ?_ hw)
            rw [show ((3209 : Int) + a1 - 8).toNat = 3214 by omega]
            exact hs.eg.1.symm
          · refine zOk_fl kk (zOk_gl (by omega) (zOk_s ?_ hw))
            obtain e | e | e | e | e : a1 = 8 ∨ a1 = 9 ∨ a1 = 10 ∨ a1 = 11 ∨ a1 = 12 := by omega
            · subst e; exact t0.symm
            · subst e; exact t1.symm
            · subst e; exact t2.symm
            · subst e; exact t3.symm
            · subst e; exact t4.symm
        · refine zOk_fl k8 (zOk_fr k8 (zOk_gl (by omega) (zOk_gr (by omega) (zOk_s ?_ hw))))
          obtain ⟨u, hu⟩ : ∃ u : Nat, a1 = (u : Int) + 3 := ⟨(a1 - 3).toNat, by omega⟩
          rw [show (a1 - 4 + 1).toNat = u by omega, show ((3204 : Int) + a1 - 3).toNat = 3204 + u by omega]
          exact (zpmv (S' := MX) (M' := MM) hs (w := u) (by omega) (by omega)).symm
      · refine zOk_fl k4 (zOk_fr k4 (zOk_gl (by omega) (zOk_gr (by omega) (zOk_s ?_ hw))))
        obtain e | e | e | e : a1 = 0 ∨ a1 = 1 ∨ a1 = 2 ∨ a1 = 3 := by omega
        · subst e; exact p0.symm
        · subst e; exact p1.symm
        · subst e; exact p2.symm
        · subst e; exact p3.symm
    · rw [if_neg (show ¬ (0 ≤ a1 ∧ a1 ≤ 13) by omega)]
      exact zOk_fl k13 (zOk_gr (by decide) (zOk_tr rfl (zOk_s rfl hw)))
