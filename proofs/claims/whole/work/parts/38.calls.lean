/-! book, looked, feed, image, undo -/
theorem zSim_bk {b c : Int} {Q : Nat → List Nat} {S M S' M' : zM} (h : zSim false b c Q S M) (hS : ∀ r, ¬ (18 ≤ r ∧ r ≤ 20) → S' r = S r) (hM : ∀ r, r ≠ 1 → M' r = M r) (hg : ∀ i, i < 3236 → M' 1 i = M 1 i) (hb : zEb S' (M' 1)) : zSim false b c Q S' M' := by
  refine ⟨zCI_off h.ci (hS 4 (by decide)) (hS 5 (by decide)) (hS 6 (by decide)) (hS 7 (by decide)) (hS 9 (by decide)) (hS 10 (by decide)), zMI_still h.mi ⟨fun k hk => ⟨hg k (by omega), hg (800 + k) (by omega), hg (2800 + k) (by omega)⟩, fun w hw => hg (3204 + w) (by omega), hg 3215 (by omega)⟩, fun k hk => ?_, ?_, ?_, hb, ?_, ?_, ?_⟩
  · rw [hg k (by omega), hg (400 + k) (by omega), hg (800 + k) (by omega), hg (1200 + k) (by omega), hg (1600 + k) (by omega), hg (2000 + k) (by omega), hg (2400 + k) (by omega), hS 9 (by decide), hS 10 (by decide), hS 11 (by decide), hS 12 (by decide), hS 13 (by decide), hS 14 (by decide), hS 15 (by decide)]
    exact h.ef k hk
  · unfold zEs
    rw [hg 3200 (by omega), hg 3201 (by omega), hg 3202 (by omega), hg 3203 (by omega), hg 3209 (by omega), hg 3210 (by omega), hg 3211 (by omega), hg 3212 (by omega), hg 3213 (by omega), hS 1 (by decide), hS 2 (by decide)]
    exact h.es
  · obtain ⟨g1, g2, g3, g4⟩ := h.eg
    unfold zEg
    rw [hg 3214 (by omega), hS 16 (by decide), hS 17 (by decide)]
    exact ⟨g1, g2, g3, fun i hi hi2 => by rw [hg (3216 + i) (by omega)]; exact g4 i hi hi2⟩
  · unfold zRf
    rw [hS 10 (by decide), hS 11 (by decide), hS 12 (by decide), hS 13 (by decide), hS 14 (by decide)]
    exact h.rf
  · unfold zRs
    rw [hS 1 (by decide)]
    exact h.rs
  · unfold zGg
    rw [hS 16 (by decide), hS 17 (by decide), hM 0 (by decide), hM 4 (by decide)]
    exact h.gg
theorem st_book (N : Nat) {K : Bool} {c : Int} {MX MM : zM} (h : zInv K c MX MM) {a1 a2 a3 : Int} (h1 : zR a1) (h2 : zR a2) (h3 : zR a3) : zOk K (c + 130000) (fX7_book N a1 a2 a3 MX) (fX8_book N a1 a2 a3 MM) := by
  obtain ⟨⟨Q, hs⟩, hv⟩ := id h.1
  have hw := h.weak (c' := c + 130000) (by omega)
  obtain ⟨b1, b2, b3, b4⟩ := hs.eb
  have b1 : MM 1 3236 = MX 19 2 := b1
  have b2 : 0 ≤ MX 19 2 := b2
  have b3 : MX 19 2 ≤ 8 := b3
  unfold fX7_book fX8_book
  refine zOk_gl h1 (zOk_gr h1 ?_)
  by_cases km : a1 = -1
  · refine zOk_tl km (zOk_tr km (zOk_ll (zOk_lr (zOk_s rfl ?_))))
    refine zInv_live h ⟨⟨Q, ?_⟩, ?_⟩ (zup_off (by omega)) zFrM.up.off (by omega)
    · have e : zsh 1 (zup MX 19 2 0) = zup (zsh 1 MX) 18 2 0 := zsh_up (r := 18)
      rw [e]
      refine (zSim_bk (S' := zup (zsh 1 MX) 18 2 0) hs (fun r hr => zup_other (by omega)) (fun r hr => zup_other hr) (fun i hi => by rw [zup_self, if_neg (by omega)]) ?_).weak (by omega)
      unfold zEb
      rw [zup_eq, zup_eq]
      exact ⟨rfl, by decide, by decide, fun i hi => by omega⟩
    · refine zRv_rows hv ?_
      exact zup_other (by decide)
  · refine zOk_fl km (zOk_fr km (zOk_cl (e_keyOf N h1 h2) (zOk_cr (e_isKey N h1 h2) (zOk_ll ?_))))
    by_cases hk : (0 ≤ a1 ∧ a1 ≤ 3) ∧ 0 ≤ a2 ∧ a2 ≤ 99
    · rw [if_pos hk, if_pos hk]
      obtain ⟨k, hk'⟩ : ∃ k : Nat, 100 * a1 + a2 = (k : Int) := ⟨(100 * a1 + a2).toNat, by omega⟩
      have hk4 : k < 400 := by omega
      rw [hk']
      refine zOk_gl (by constructor <;> omega) (zOk_tl (by omega) (zOk_gl h3 (zOk_gr (by decide) (zOk_fr (by decide) (zOk_cr (e_in N h3 (by decide) (by decide)) ?_)))))
      by_cases k0 : a3 < 0
      · rw [if_neg (show ¬ (0 ≤ a3 ∧ a3 ≤ 4) by omega)]
        exact zOk_tl k0 (zOk_gr (by decide) (zOk_tr rfl (zOk_s rfl hw)))
      · refine zOk_fl k0 ?_
        by_cases k5 : a3 < 5
        · rw [if_pos (show (0 ≤ a3 ∧ a3 ≤ 4) by omega)]
          refine zOk_tl k5 (zOk_gl (by constructor <;> omega) (zOk_gr (by decide) (zOk_fr (by decide) (zOk_gr (by constructor <;> omega) ?_))))
          by_cases k8 : MX 19 2 < 8
          · obtain ⟨n, hn⟩ : ∃ n : Nat, MX 19 2 = (n : Int) := ⟨(MX 19 2).toNat, by omega⟩
            have e1 : zup MX 20 n (k : Int) 19 2 = (n : Int) := by rw [zup_other (by decide)]; exact hn
            have e2 : zup (zup MX 20 n (k : Int)) 21 n a3 19 2 = (n : Int) := by rw [zup_other (by decide)]; exact e1
            have f1 : zup MM 1 (3237 + 2 * n) (k : Int) 1 3236 = (n : Int) := by rw [zup_self, if_neg (by omega), b1]; exact hn
            have f2 : zup (zup MM 1 (3237 + 2 * n) (k : Int)) 1 (3238 + 2 * n) a3 1 3236 = (n : Int) := by rw [zup_self, if_neg (by omega)]; exact f1
            have i1 : ((3237 : Int) + 2 * (n : Int)).toNat = 3237 + 2 * n := by omega
            have i2 : ((3237 : Int) + 2 * (n : Int) + 1).toNat = 3238 + 2 * n := by omega
            rw [b1, hn, show ((n : Int)).toNat = n by omega, i1]
            refine zOk_tl (by omega) (zOk_fr (by omega) (zOk_gl (by omega) (zOk_gr (by omega) (zOk_ll (zOk_lr ?_)))))
            rw [e1, f1, show ((n : Int)).toNat = n by omega, i2]
            refine zOk_gl (by omega) (zOk_gr (by omega) (zOk_ll (zOk_lr ?_)))
            rw [e2, f2]
            refine zOk_ll (zOk_lr (zOk_s (by rw [zup_eq, zup_eq]) ?_))
            refine zInv_live h ⟨⟨Q, ?_⟩, ?_⟩ (((zup_off (by omega)).tr (zup_off (by omega))).tr (zup_off (by omega))) ((zFrM.up.off.tr zFrM.up.off).tr zFrM.up.off) (by omega)
            · have e : zsh 1 (zup (zup (zup MX 20 n (k : Int)) 21 n a3) 19 2 ((n : Int) + 1)) = zup (zup (zup (zsh 1 MX) 19 n (k : Int)) 20 n a3) 18 2 ((n : Int) + 1) := by
                have u1 : zsh 1 (zup MX 20 n (k : Int)) = zup (zsh 1 MX) 19 n (k : Int) := zsh_up (r := 19)
                have u2 : zsh 1 (zup (zup MX 20 n (k : Int)) 21 n a3) = zup (zsh 1 (zup MX 20 n (k : Int))) 20 n a3 := zsh_up (r := 20)
                have u3 : zsh 1 (zup (zup (zup MX 20 n (k : Int)) 21 n a3) 19 2 ((n : Int) + 1)) = zup (zsh 1 (zup (zup MX 20 n (k : Int)) 21 n a3)) 18 2 ((n : Int) + 1) := zsh_up (r := 18)
                rw [u3, u2, u1]
              rw [e]
              refine (zSim_bk hs (fun r hr => by rw [zup_other (by omega), zup_other (by omega), zup_other (by omega)]) (fun r hr => by rw [zup_other hr, zup_other hr, zup_other hr]) (fun i hi => by rw [zup_self, if_neg (by omega), zup_self, if_neg (by omega), zup_self, if_neg (by omega)]) ?_).weak (by omega)
              unfold zEb
              have s18 : zup (zup (zup (zsh 1 MX) 19 n (k : Int)) 20 n a3) 18 2 ((n : Int) + 1) 18 2 = (n : Int) + 1 := zup_eq _ _ _ _
              have s19 : ∀ i, zup (zup (zup (zsh 1 MX) 19 n (k : Int)) 20 n a3) 18 2 ((n : Int) + 1) 19 i = if i = n then (k : Int) else zsh 1 MX 19 i := fun i => by rw [zup_other (by decide), zup_other (by decide), zup_self]
              have s20 : ∀ i, zup (zup (zup (zsh 1 MX) 19 n (k : Int)) 20 n a3) 18 2 ((n : Int) + 1) 20 i = if i = n then a3 else zsh 1 MX 20 i := fun i => by rw [zup_other (by decide), zup_self, zup_other (by decide)]
              rw [s18]
              refine ⟨by rw [zup_eq], by omega, by omega, fun i hi => ?_⟩
              rw [s19, s20]
              by_cases hin : i = n
              · subst hin
                rw [if_pos rfl, if_pos rfl]
                refine ⟨?_, ?_, by omega, by omega, by omega, by omega⟩
                · rw [zup_self, if_neg (by omega), zup_self, if_neg (by omega), zup_self, if_pos rfl]
                · rw [zup_self, if_neg (by omega), zup_self, if_pos rfl]
              · rw [if_neg hin, if_neg hin, zup_self, if_neg (by omega), zup_self, if_neg (by omega), zup_self, if_neg (by omega), zup_self, if_neg (by omega), zup_self, if_neg (by omega), zup_self, if_neg (by omega)]
                exact b4 i (by show (i : Int) < MX 19 2; omega)
            · refine zRv_rows hv ?_
              show zup (zup (zup MX 20 n (k : Int)) 21 n a3) 19 2 ((n : Int) + 1) 16 = MX 16
              rw [zup_other (by decide), zup_other (by decide), zup_other (by decide)]
          · exact zOk_fl k8 (zOk_tr (by omega) (zOk_s rfl hw))
        · rw [if_neg (show ¬ (0 ≤ a3 ∧ a3 ≤ 4) by omega)]
          exact zOk_fl k5 (zOk_gr (by decide) (zOk_tr rfl (zOk_s rfl hw)))
    · rw [if_neg hk, if_neg hk]
      exact zOk_gl (by decide) (zOk_fl (by decide) (zOk_gr (by decide) (zOk_tr rfl (zOk_s rfl hw))))
theorem st_looked (N : Nat) (hN : 6000 < N) {K : Bool} {c : Int} {MX MM : zM} (h : zInv K c MX MM) : zOk K (c + 130000) (fX7_looked N MX) (fX8_looked N MM) := by
  obtain ⟨⟨Q, hs⟩, hv⟩ := id h.1
  have hw := h.weak (c' := c + 130000) (by omega)
  obtain ⟨b1, b2, b3, b4⟩ := hs.eb
  have b1 : MM 1 3236 = MX 19 2 := b1
  have b2 : 0 ≤ MX 19 2 := b2
  have b3 : MX 19 2 ≤ 8 := b3
  have b4 : ∀ i : Nat, (i : Int) < MX 19 2 → MM 1 (3237 + 2 * i) = MX 20 i ∧ MM 1 (3238 + 2 * i) = MX 21 i ∧ 0 ≤ MX 20 i ∧ MX 20 i < 400 ∧ 0 ≤ MX 21 i ∧ MX 21 i ≤ 4 := b4
  obtain ⟨sz, hsz⟩ : ∃ sz : Nat, MX 19 2 = (sz : Int) := ⟨(MX 19 2).toNat, by omega⟩
  have loop : ∀ (m n n' i : Nat), i + m = sz → m < n → m < n' → zOk K (c + 130000) (fX7_looked_10 N n (i : Int) MX) (fX8_looked_2 N n' (i : Int) MM) := by
    intro m
    induction m with
    | zero =>
      intro n n' i hi hn hn'
      obtain ⟨n, rfl⟩ : ∃ x, n = x + 1 := ⟨n - 1, by omega⟩
      obtain ⟨n', rfl⟩ : ∃ x, n' = x + 1 := ⟨n' - 1, by omega⟩
      unfold fX7_looked_10 sX7_looked_10 fX8_looked_2 sX8_looked_2
      rw [b1, hsz]
      exact zOk_gl (by constructor <;> omega) (zOk_gl (by constructor <;> omega) (zOk_tl (by omega) (zOk_gr (by constructor <;> omega) (zOk_gr (by constructor <;> omega) (zOk_tr (by omega) (zOk_s rfl hw))))))
    | succ m ih =>
      intro n n' i hi hn hn'
      obtain ⟨n, rfl⟩ : ∃ x, n = x + 1 := ⟨n - 1, by omega⟩
      obtain ⟨n', rfl⟩ : ∃ x, n' = x + 1 := ⟨n' - 1, by omega⟩
      obtain ⟨g1, g2, g3, g4, g5, g6⟩ := b4 i (by omega)
      obtain ⟨k, hk⟩ : ∃ k : Nat, MX 20 i = (k : Int) := ⟨(MX 20 i).toNat, by omega⟩
      have hd1 : fX7_looked_10 N (n + 1) (i : Int) MX = sX7_looked_10 N (fun x2 M0 => fX7_looked_10 N n x2 M0) (i : Int) MX := rfl
      have hd2 : fX8_looked_2 N (n' + 1) (i : Int) MM = sX8_looked_2 N (fun x1 M0 => fX8_looked_2 N n' x1 M0) (i : Int) MM := rfl
      have q1 : MM 1 k = MX 10 k := (hs.ef k (by omega)).1
      obtain ⟨r0, r4⟩ : 0 ≤ MX 10 k ∧ MX 10 k ≤ 4 := hs.ci.2.2 k (by omega)
      rw [hd1, hd2]
      unfold sX7_looked_10 sX8_looked_2
      rw [b1, hsz, show ((3237 : Int) + 2 * (i : Int)).toNat = 3237 + 2 * i by omega, show ((3237 : Int) + 2 * (i : Int) + 1).toNat = 3238 + 2 * i by omega, show ((i : Int)).toNat = i by omega, g1, g2, hk, show ((k : Int)).toNat = k by omega, show ((0 : Int) + (k : Int)).toNat = k by omega, q1]
      refine zOk_gl (by constructor <;> omega) (zOk_gl (by constructor <;> omega) (zOk_fl (by omega) (zOk_gr (by constructor <;> omega) (zOk_gr (by constructor <;> omega) (zOk_fr (by omega) (zOk_gl (by omega) (zOk_gl (by omega) (zOk_gl (by constructor <;> omega) (zOk_gl (by constructor <;> omega) (zOk_gr (by omega) (zOk_gr (by omega) (zOk_gr (by omega) (zOk_gr (by constructor <;> omega) (zOk_gr (by constructor <;> omega) ?_))))))))))))))
      by_cases he : MX 10 k = MX 21 i
      · refine zOk_tl he (zOk_tr he (zOk_ll (zOk_lr ?_)))
        rw [show (i : Int) + 1 = ((i + 1 : Nat) : Int) by omega]
        exact ih n n' (i + 1) (by omega) (by omega) (by omega)
      · exact zOk_fl he (zOk_fr he (zOk_s rfl hw))
  unfold fX7_looked fX8_looked
  exact zOk_ll (zOk_lr (loop sz N N 0 (by omega) (by omega) (by omega)))
theorem st_feed (N : Nat) {K : Bool} {c : Int} {MX MM : zM} (h : zInv K c MX MM) {a1 : Int} (h1 : zR a1) : zOk K (c + 130000) (fX7_feed N a1 MX) (fX8_feed N a1 MM) := by
  have hw := h.weak (c' := c + 130000) (by omega)
  obtain ⟨hl, hk, ⟨t1, ⟨t2, t3⟩, t4⟩, hT, hp⟩ := id h
  unfold fX7_feed fX8_feed
  refine zOk_gl h1 (zOk_cr (e_in N h1 (by decide) (by decide)) ?_)
  by_cases k0 : a1 < 0
  · rw [if_neg (show ¬ (0 ≤ a1 ∧ a1 ≤ 127) by omega)]
    exact zOk_tl k0 (zOk_gr (by decide) (zOk_tr rfl (zOk_s rfl hw)))
  · refine zOk_fl k0 ?_
    by_cases k7 : a1 ≤ 127
    · rw [if_pos (show (0 ≤ a1 ∧ a1 ≤ 127) by omega)]
      refine zOk_tl k7 (zOk_gl (by constructor <;> omega) (zOk_gr (by decide) (zOk_fr (by decide) (zOk_gr (by rw [← t1]; constructor <;> omega) ?_))))
      rw [← t1]
      by_cases kc : MX 43 1 < 100
      · obtain ⟨n, hn⟩ : ∃ n : Nat, MX 43 1 = (n : Int) := ⟨(MX 43 1).toNat, by omega⟩
        refine zOk_tl kc (zOk_gl (by omega) (zOk_fr (by omega) (zOk_lr (zOk_gr (by omega) (zOk_ll (zOk_ll (zOk_lr ?_)))))))
        rw [hn, show ((n : Int)).toNat = n by omega]
        have e1 : zup MX 44 n a1 43 1 = (n : Int) := by rw [zup_other (by decide)]; exact hn
        rw [e1]
        refine zOk_s ?_ ⟨?_, ?_, ⟨?_, ?_, fun j hj => ?_⟩, ?_, ?_⟩
        · rw [zup_eq, zup_other (by decide), zup_eq]
        · obtain ⟨⟨Q, hs⟩, hv⟩ := hl
          have rows : ∀ r, r ≤ 20 → zsh 1 (zup (zup MX 44 n a1) 43 1 ((n : Int) + 1)) r = zsh 1 MX r := fun r hr => by
            show zup (zup MX 44 n a1) 43 1 ((n : Int) + 1) (r + 1) = MX (r + 1)
            rw [zup_other (by omega), zup_other (by omega)]
          refine ⟨⟨Q, (zSim_M (zSim_rows hs rows) ?_ ?_ ?_).weak (by omega)⟩, zRv_rows hv (rows 15 (by decide))⟩
          · rw [zup_other (by decide), zup_other (by decide)]
          · rw [zup_other (by decide), zup_self, if_neg (by decide)]
          · rw [zup_other (by decide), zup_other (by decide)]
        · obtain ⟨k1, k2⟩ := hk
          refine ⟨by rw [zup_other (by decide), zup_self, if_neg (by decide)]; exact k1, fun q => ?_⟩
          obtain ⟨⟨Q, s1⟩, s2⟩ := k2 q
          have rows : ∀ r, zsh 83 (zup (zup MX 44 n a1) 43 1 ((n : Int) + 1)) r = zsh 83 MX r := fun r => by
            show zup (zup MX 44 n a1) 43 1 ((n : Int) + 1) (r + 83) = MX (r + 83)
            rw [zup_other (by omega), zup_other (by omega)]
          refine ⟨⟨Q, ?_⟩, zRv_rows s2 (rows 15)⟩
          have e : zmk (zup (zup MM 0 7 ((n : Int) + 1)) 5 n a1) = zmk MM := by
            unfold zmk
            rw [zup_other (by decide), zup_other (by decide)]
          rw [e]
          exact (zSim_rows s1 (fun r _ => rows r)).weak (by omega)
        · rw [zup_eq, zup_other (by decide), zup_eq]
        · rw [zup_eq]; omega
        · rw [zup_eq] at hj
          rw [zup_other (by decide), zup_self, zup_self]
          by_cases hjn : j = n
          · rw [if_pos hjn, if_pos hjn]
            exact ⟨rfl, by omega, k7⟩
          · rw [if_neg hjn, if_neg hjn, zup_other (by decide)]
            exact t4 j (by omega)
        · obtain ⟨m, n1, n2, n3, n4⟩ := hT
          refine ⟨m, n1, ?_, ?_, fun t ht => zTre_fr (n4 t ht) (fun r hr => ?_) (fun i _ _ => ?_) ?_⟩
          · rw [zup_other (by decide), zup_other (by decide)]; exact n2
          · rw [zup_other (by decide), zup_self, if_neg (by decide)]; exact n3
          · show zup (zup MX 44 n a1) 43 1 ((n : Int) + 1) (r + (46 + 4 * t)) = MX (r + (46 + 4 * t))
            rw [zup_other (by omega), zup_other (by omega)]
          · rw [zup_other (by decide), zup_other (by decide), zup_other (by decide), zup_other (by decide), zup_other (by decide), zup_other (by decide)]
            exact ⟨rfl, rfl, rfl⟩
          · rw [zup_other (by decide), zup_other (by decide)]
        · intro i hi
          rw [zup_other (by omega), zup_other (by omega), zup_other (by omega), zup_other (by omega), zup_other (by omega), zup_other (by omega), zup_other (by omega), zup_other (by omega), zup_other (by omega), zup_other (by omega)]
          exact hp i hi
      · exact zOk_fl kc (zOk_tr (by omega) (zOk_s rfl hw))
    · rw [if_neg (show ¬ (0 ≤ a1 ∧ a1 ≤ 127) by omega)]
      exact zOk_fl k7 (zOk_gr (by decide) (zOk_tr rfl (zOk_s rfl hw)))
