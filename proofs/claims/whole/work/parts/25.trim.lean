/-! trim, on both sides, step by step -/
def zFrS (S S' : zM) : Prop := S' 1 = S 1 ∧ S' 2 = S 2 ∧ S' 15 = S 15
def zFrM (M M' : zM) : Prop := (∀ r, r ≠ 0 → r ≠ 1 → r ≠ 4 → M' r = M r) ∧ ∀ j, j ≠ 5 → M' 0 j = M 0 j
theorem zFrS.rf {S : zM} : zFrS S S := ⟨rfl, rfl, rfl⟩
theorem zFrS.tr {S S1 S2 : zM} (h : zFrS S S1) (h2 : zFrS S1 S2) : zFrS S S2 := ⟨h2.1.trans h.1, h2.2.1.trans h.2.1, h2.2.2.trans h.2.2⟩
theorem zFrM.rf {M : zM} : zFrM M M := ⟨fun _ _ _ _ => rfl, fun _ _ => rfl⟩
theorem zFrM.tr {S S1 S2 : zM} (h : zFrM S S1) (h2 : zFrM S1 S2) : zFrM S S2 := ⟨fun r a b c => (h2.1 r a b c).trans (h.1 r a b c), fun j hj => (h2.2 j hj).trans (h.2 j hj)⟩
theorem zoff.fr {S S' : zM} (h : zoff S S') : zFrS S S' := ⟨h 1 (by decide) (by decide), h 2 (by decide) (by decide), h 15 (by decide) (by decide)⟩
theorem zFrM.of1 {M M' : zM} (h : ∀ r, r ≠ 1 → M' r = M r) : zFrM M M' := ⟨fun r _ a _ => h r a, fun j _ => by rw [h 0 (by decide)]⟩
theorem zFrM.up {M : zM} {i : Nat} {v : Int} : zFrM M (zup M 1 i v) := zFrM.of1 (fun _ hr => zup_other hr)
theorem zpmv {S M S' M' : zM} {e : Bool} {b c : Int} {Q : Nat → List Nat} (h : zSim e b c Q S M) {w : Nat} (hw : 1 ≤ w) (hw4 : w ≤ 4) : M 1 (3204 + w) = S 5 w := by
  rw [(h.mi.1 w hw hw4).1, zCI_sum h.ci hw hw4]
  exact zsm_congr (fun k hk => (h.ef k ((zCI_mem h.ci hw hw4).mp hk).1).2.2.1)
theorem zsum_r {S M : zM} {e : Bool} {b c : Int} {Q : Nat → List Nat} (h : zSim e b c Q S M) {w : Nat} (hw : 1 ≤ w) (hw4 : w ≤ 4) : 0 ≤ S 5 w ∧ S 5 w ≤ 3600 := by
  rw [zCI_sum h.ci hw hw4]
  have hl := zCI_len h.ci hw hw4
  have h1 := zsm_ge (f := S 10) (l := Q w) (fun k hk => (h.rf k ((zCI_mem h.ci hw hw4).mp hk).1).1.1)
  have h2 := zsm_le (f := S 10) (l := Q w) (m := 9) (fun k hk => (h.rf k ((zCI_mem h.ci hw hw4).mp hk).1).1.2)
  omega
theorem zpin {S M : zM} {e : Bool} {b c : Int} {Q : Nat → List Nat} (h : zSim e b c Q S M) : ∀ k, k < 400 → M 1 (2400 + k) = 0 ∨ M 1 (2400 + k) = 1 := fun k hk => by
  rw [(h.ef k hk).2.2.2.2.2.2]
  exact (h.rf k hk).2.2.2.2
theorem zfind_congr {P R : Nat → Bool} : ∀ {l : List Nat}, (∀ k, k ∈ l → P k = R k) → l.find? P = l.find? R
  | [], _ => rfl
  | a :: l, h => by
    have ha := h a (by simp)
    have ih := zfind_congr (l := l) (fun k hk => h k (by simp [hk]))
    by_cases hP : P a = true
    · rw [List.find?_cons_of_pos hP, List.find?_cons_of_pos (by rw [← ha]; exact hP)]
    · rw [List.find?_cons_of_neg hP, List.find?_cons_of_neg (by rw [← ha]; exact hP), ih]
/-- the oldest that isn't pinned, as both sides find it -/
theorem zboth (N : Nat) {S M : zM} {e : Bool} {b c : Int} {Q : Nat → List Nat} (h : zSim e b c Q S M) (hN : 400 < N) (hc : c ≤ 2147483647) {w : Nat} (hw : 1 ≤ w) (hw4 : w ≤ 4) :
    ∃ f : Option Nat, fX2_oldestLoose N (w : Int) (zpk is_3n5_14n1 S) = some (f.elim (-5) Int.ofNat, zpk is_3n5_14n1 S) ∧ fX8_oldest N (w : Int) 1 M = some (f.elim (-1) Int.ofNat, M) ∧ ∀ k, f = some k → k ∈ Q w ∧ k < 400 ∧ S 9 k = (w : Int) ∧ S 14 k = 0 := by
  refine ⟨(Q w).find? (fun k => decide (S 14 k = 0)), s_loose N hN h.ci hw hw4 (fun k hk => (h.rf k hk).2.2.2.2), ?_, fun k hk => ?_⟩
  · rw [m_oldest N hN hc h.mi (zpin h) hw hw4 (by decide)]
    have : (Q w).find? (fun k => decide (¬ ((1 : Int) ≠ 0 ∧ M 1 (2400 + k) = 1))) = (Q w).find? (fun k => decide (S 14 k = 0)) := by
      refine zfind_congr (fun k hk => ?_)
      have hk4 := ((zCI_mem h.ci hw hw4).mp hk).1
      rw [(h.ef k hk4).2.2.2.2.2.2]
      rcases (h.rf k hk4).2.2.2.2 with q | q
      · rw [q]; decide
      · rw [q]; decide
    rw [this]
  · have h1 := List.mem_of_find?_eq_some hk
    have h2 := List.find?_some hk
    obtain ⟨p1, p2⟩ := (zCI_mem h.ci hw hw4).mp h1
    exact ⟨h1, p1, p2, by simpa using h2⟩
theorem zmv_dec {Q : Nat → List Nat} {k t w : Nat} (hn : (Q w).Nodup) (hk : k ∈ Q w) (hwt : w ≠ t) : (zmv Q k t w).length + 1 = (Q w).length := by
  have := zmv_len (k := k) (t := t) hn
  rw [if_pos hk, if_neg hwt] at this
  have : 0 < (Q w).length := List.length_pos_of_mem hk
  omega
theorem zRf_up {S : zM} (h : zRf S) {r k : Nat} {v : Int} (hv : (r = 15) ∨ (r = 11 ∧ 0 ≤ v ∧ v ≤ 99) ∨ (r = 12 ∧ 0 ≤ v ∧ v ≤ 99) ∨ (r = 13 ∧ 0 ≤ v ∧ v ≤ 9) ∨ (r = 14 ∧ (v = 0 ∨ v = 1)) ∨ (r = 10 ∧ 0 ≤ v ∧ v ≤ 9)) : zRf (zup S r k v) := by
  intro j hj
  obtain ⟨q1, q2, q3, q4, q5⟩ := h j hj
  simp only [zup_at]
  refine ⟨?_, ?_, ?_, ?_, ?_⟩
  · split
    · omega
    · exact q1
  · split
    · omega
    · exact q2
  · split
    · omega
    · exact q3
  · split
    · omega
    · exact q4
  · split
    · omega
    · exact q5
theorem sim_demote2 (N : Nat) (hN : 400 < N) {e : Bool} {b : Int} : ∀ (m n n' : Nat) (step : Nat) (c : Int) (Q : Nat → List Nat) (S M : zM), zSim e b c Q S M → (Q 2).length ≤ m → m < n → m < n' → step + m < 1000000 → c + m ≤ 2000000000 →
    ∃ Q' S' M', fX3_demote_2 N n (step : Int) S = some S' ∧ fX8_sinks_0 N n' M = some M' ∧ zSim e b (c + m) Q' S' M' ∧ zFrS S S' ∧ zFrM M M' := by
  intro m
  induction m with
  | zero =>
    intro n n' step c Q S M h hm hn hn' hst hc
    obtain ⟨n, rfl⟩ : ∃ m, n = m + 1 := ⟨n - 1, by omega⟩
    obtain ⟨n', rfl⟩ : ∃ m, n' = m + 1 := ⟨n' - 1, by omega⟩
    have h0 : Q 2 = [] := List.eq_nil_of_length_eq_zero (by omega)
    have hs : S 5 2 = 0 := by rw [zCI_sum h.ci (by omega) (by omega), h0]; rfl
    have hm2 : M 1 3206 = S 5 2 := zpmv (S' := S) (M' := M) h (w := 2) (by omega) (by omega)
    have hb := h.rs.2.1
    have he : M 1 3201 = S 1 1 := h.es.1.2.1
    refine ⟨Q, S, M, ?_, ?_, h.weak (by omega), zFrS.rf, zFrM.rf⟩
    · show sX3_demote_2 N _ _ S = _
      unfold sX3_demote_2 zg zi
      rw [if_pos (by constructor <;> omega), if_neg (by omega), hs, if_pos (by decide), if_pos (by constructor <;> omega), if_pos (by omega)]
    · show sX8_sinks_0 N _ M = _
      unfold sX8_sinks_0 zg zi
      rw [hm2, he, hs, if_pos (by decide), if_pos (by constructor <;> omega), if_pos (by omega)]
  | succ m ih =>
    intro n n' step c Q S M h hm hn hn' hst hc
    obtain ⟨n, rfl⟩ : ∃ m, n = m + 1 := ⟨n - 1, by omega⟩
    obtain ⟨n', rfl⟩ : ∃ m, n' = m + 1 := ⟨n' - 1, by omega⟩
    have hm2 : M 1 3206 = S 5 2 := zpmv (S' := S) (M' := M) h (w := 2) (by omega) (by omega)
    have hsr := zsum_r h (w := 2) (by omega) (by omega)
    have hb := h.rs.2.1
    have he : M 1 3201 = S 1 1 := h.es.1.2.1
    show ∃ Q' S' M', sX3_demote_2 N (fun x1 M0 => fX3_demote_2 N n x1 M0) (step : Int) S = some S' ∧ sX8_sinks_0 N (fun M0 => fX8_sinks_0 N n' M0) M = some M' ∧ _
    unfold sX3_demote_2 sX8_sinks_0 zg zi
    rw [hm2, he, if_pos (by constructor <;> omega), if_neg (by omega), if_pos (show zR (S 5 2) by constructor <;> omega), if_pos (show zR (S 1 1) by constructor <;> omega), if_pos (show zR (S 5 2) by constructor <;> omega), if_pos (show zR (S 1 1) by constructor <;> omega)]
    by_cases hle : S 5 2 ≤ S 1 1
    · rw [if_pos hle, if_pos hle]
      exact ⟨Q, S, M, rfl, rfl, h.weak (by omega), zFrS.rf, zFrM.rf⟩
    · rw [if_neg hle, if_neg hle]
      obtain ⟨f, f1, f2, f3⟩ := zboth N h hN (by omega) (w := 2) (by omega) (by omega)
      have f1 : fX2_oldestLoose N 2 (zpk is_3n5_14n1 S) = _ := f1
      have f2 : fX8_oldest N 2 1 M = _ := f2
      unfold zc2 zl
      rw [f1, f2]
      dsimp only
      rw [zpt_zpk]
      cases f with
      | none =>
        refine ⟨Q, S, M, rfl, rfl, h.weak (by omega), zFrS.rf, zFrM.rf⟩
      | some k =>
        obtain ⟨g1, g2, g3, g4⟩ := f3 k rfl
        show ∃ Q' S' M', (if zR (k : Int) then if 0 ≤ (k : Int) then if 0 ≤ (k : Int) ∧ (k : Int) < 400 then zc (fX3_move N (k : Int) 1 (zup S 12 ((k : Int)).toNat 0)) _ else none else some S else none) = some S' ∧ (if zR (k : Int) then if 0 ≤ (k : Int) then if 0 ≤ (1600 : Int) + (k : Int) ∧ (1600 : Int) + (k : Int) < 3253 then zc (fX8_goes N (k : Int) 1 (zup M 1 ((1600 : Int) + (k : Int)).toNat 0)) _ else none else some M else none) = some M' ∧ _
        rw [show ((k : Int)).toNat = k by omega, show ((1600 : Int) + (k : Int)).toNat = 1600 + k by omega, if_pos (show zR (k : Int) by constructor <;> omega), if_pos (by omega), if_pos (by omega), if_pos (show zR (k : Int) by constructor <;> omega), if_pos (by omega), if_pos (by omega)]
        have h1 := zSim_fact h (r := 12) (o := 1600) (k := k) g2 0 (by omega) (zRf_up h.rf (by omega))
        obtain ⟨S2, M2, m1, m2, m3, m4, m5, m6⟩ := zSim_mv N h1 (k := k) (t := 1) g2 (by omega) (fun _ => Or.inr (Or.inr (Or.inr (by rw [zup_other (by decide)]; exact g3))))
        have m1 : fX3_move N (k : Int) 1 (zup S 12 k 0) = some S2 := m1
        have m2 : fX8_goes N (k : Int) 1 (zup M 1 (1600 + k) 0) = some M2 := m2
        unfold zc
        rw [m1, m2]
        obtain ⟨Q3, S3, M3, r1, r2, r3, r4, r5⟩ := ih n n' (step + 1) (c + 1) (zmv Q k 1) S2 M2 m3 (by have := zmv_dec (t := 1) (zCI_nd h.ci (w := 2) (by omega) (by omega)) g1 (by omega); omega) (by omega) (by omega) (by omega) (by omega)
        refine ⟨Q3, S3, M3, ?_, r2, by have e : c + 1 + (m : Int) = c + ((m + 1 : Nat) : Int) := by omega
                                       rw [← e]; exact r3, ?_, ?_⟩
        · show fX3_demote_2 N n ((step : Int) + 1) S2 = some S3
          rw [show ((step : Int) + 1) = ((step + 1 : Nat) : Int) by omega]
          exact r1
        · have : zFrS S (zup S 12 k 0) := ⟨zup_other (by decide), zup_other (by decide), zup_other (by decide)⟩
          exact (this.tr m5.fr).tr r4
        · exact (zFrM.up.tr (zFrM.of1 m6)).tr r5
theorem zmsb {a : Int} (h : 0 ≤ a ∧ a ≤ 2147483647) : (nZ a).toBitVec.msb = false := by
  have h1 : (nZ a).toBitVec.toInt = a := nZ_toInt ⟨by omega, h.2⟩
  rw [BitVec.toInt_eq_msb_cond] at h1
  cases hm : (nZ a).toBitVec.msb with
  | false => rfl
  | true =>
    rw [hm, if_pos rfl] at h1
    have := (nZ a).toBitVec.isLt
    omega
theorem zxor_r {a b : Int} (ha : 0 ≤ a ∧ a ≤ 2147483647) (hb : 0 ≤ b ∧ b ≤ 2147483647) : 0 ≤ zxor a b ∧ zR (zxor a b) := by
  have h0 : zxor a b = ((nZ a).toBitVec ^^^ (nZ b).toBitVec).toInt := rfl
  have hm : ((nZ a).toBitVec ^^^ (nZ b).toBitVec).msb = false := by rw [BitVec.msb_xor, zmsb ha, zmsb hb]; rfl
  have h1 : 0 ≤ zxor a b := by
    rw [h0, BitVec.toInt_eq_msb_cond, hm, if_neg (by decide)]
    omega
  have h9 : zxor a b = (nZ a ^^^ nZ b).toInt := rfl
  have h8 := (nZ a ^^^ nZ b).toInt_lt
  exact ⟨h1, by omega, by omega⟩
theorem f_floorMod (N : Nat) {a : Int} (ha : 0 ≤ a ∧ a ≤ 2147483647) : fJ9_floorMod_7cf53 N a 400 = some (a % 400) := by
  obtain ⟨x1, x2⟩ := zxor_r ha (b := 400) (by decide)
  unfold fJ9_floorMod_7cf53 zg zi zl
  dsimp only
  rw [if_pos (by omega), if_pos x2, if_pos x1]
  rfl
theorem s_leave (N : Nat) {S : zM} {k : Nat} (h : 0 ≤ S 16 1 ∧ S 16 1 ≤ 2147483646) :
    ∃ L, fX1_add N (k : Int) (zpk is_16n2 S) = some L ∧ zpt is_16n2 S L 16 1 = S 16 1 + 1 ∧ zpt is_16n2 S L 17 = zu (S 17) (S 16 1 % 400).toNat k ∧ ∀ r, r ≠ 16 → r ≠ 17 → zpt is_16n2 S L r = S r := by
  have e0 : zpk is_16n2 S 0 1 = S 16 1 := rfl
  have hr : 0 ≤ S 16 1 % 400 ∧ S 16 1 % 400 < 400 := by omega
  refine ⟨zup (zup (zpk is_16n2 S) 1 (S 16 1 % 400).toNat k) 0 1 (S 16 1 + 1), ?_, ?_, ?_, ?_⟩
  · unfold fX1_add zc zg zl
    rw [e0, f_floorMod N (by omega)]
    dsimp only
    rw [if_pos hr, zup_other (by decide), e0]
  · show zup (zup (zpk is_16n2 S) 1 (S 16 1 % 400).toNat k) 0 1 (S 16 1 + 1) 0 1 = _
    rw [zup_eq]
  · show zup (zup (zpk is_16n2 S) 1 (S 16 1 % 400).toNat k) 0 1 (S 16 1 + 1) 1 = _
    rw [zup_other (by decide), zup_row]
    rfl
  · intro r h1 h2
    unfold zpt
    have : zix is_16n2 r = none := by
      unfold is_16n2
      simp only [zix]
      rw [if_neg h1, if_neg h2]
      rfl
    rw [this]
/-- the reference's list of those that went last moves on by one -/
theorem m_went20 (N : Nat) {k : Nat} (hk : k < 400) : ∀ (i n : Nat) (M : zM), i ≤ 19 → i < n → (0 ≤ M 0 5 ∧ M 0 5 ≤ 400) →
    ∃ M', fX8_went_20 N n (k : Int) (i : Int) M = some M' ∧ (∀ j, M' 1 j = if 3216 ≤ j ∧ j ≤ 3216 + i then (if j = 3216 then (k : Int) else M 1 (j - 1)) else if j = 3214 then M 1 3214 + 1 else M 1 j) ∧
      (∀ r, r ≠ 0 → r ≠ 1 → r ≠ 4 → M' r = M r) ∧ (∀ j, j ≠ 5 → M' 0 j = M 0 j) ∧ M' 0 5 = (if M 0 5 < 400 then M 0 5 + 1 else M 0 5) ∧ M' 4 = (if M 0 5 < 400 then zu (M 4) (M 0 5).toNat k else M 4) := by
  intro i
  induction i with
  | zero =>
    intro n M hi hn hg
    obtain ⟨n, rfl⟩ : ∃ m, n = m + 1 := ⟨n - 1, by omega⟩
    have key : zwp (sX8_went_20 N (fun x1 x3 M0 => fX8_went_20 N n x1 x3 M0) (k : Int) ((0 : Nat) : Int) M) (fun M' => (∀ j, M' 1 j = if 3216 ≤ j ∧ j ≤ 3216 + 0 then (if j = 3216 then (k : Int) else M 1 (j - 1)) else if j = 3214 then M 1 3214 + 1 else M 1 j) ∧
      (∀ r, r ≠ 0 → r ≠ 1 → r ≠ 4 → M' r = M r) ∧ (∀ j, j ≠ 5 → M' 0 j = M 0 j) ∧ M' 0 5 = (if M 0 5 < 400 then M 0 5 + 1 else M 0 5) ∧ M' 4 = (if M 0 5 < 400 then zu (M 4) (M 0 5).toNat k else M 4)) := by
      unfold sX8_went_20
      refine zwp_g (by decide) (zwp_t (by omega) (zwp_n (fun M7 e7 => zwp_n (fun M8 e8 => ?_))))
      have g7 : M7 1 3214 = M 1 3214 := by rw [e7, zup_self, if_neg (by omega)]
      have g8 : ∀ j, M8 1 j = if 3216 ≤ j ∧ j ≤ 3216 + 0 then (if j = 3216 then (k : Int) else M 1 (j - 1)) else if j = 3214 then M 1 3214 + 1 else M 1 j := fun j => by
        rw [e8, zup_self, g7, e7, zup_self]
        by_cases h1 : j = 3214
        · rw [if_pos h1, if_neg (by omega), if_pos h1]
        · rw [if_neg h1]
          by_cases h2 : j = 3216
          · rw [if_pos h2, if_pos (by omega), if_pos h2]
          · rw [if_neg h2, if_neg (by omega), if_neg h1]
      have g0 : ∀ r, r ≠ 1 → M8 r = M r := fun r hr => by rw [e8, zup_other hr, e7, zup_other hr]
      have g05 : M8 0 5 = M 0 5 := by rw [g0 0 (by decide)]
      rw [g05]
      refine zwp_g (by constructor <;> omega) (zwp_i (fun hc => zwp_s ?_) (fun hc => zwp_n (fun M10 e10 => zwp_g (by omega) (zwp_n (fun M12 e12 => zwp_s ?_)))))
      · rw [if_neg (by omega), if_neg (by omega)]
        exact ⟨g8, fun r _ h1 _ => g0 r h1, fun j _ => by rw [g0 0 (by decide)], g05, g0 4 (by decide)⟩
      · have g12 : ∀ r, r ≠ 0 → r ≠ 4 → M12 r = M8 r := fun r h1 h2 => by rw [e12, zup_other h2, e10, zup_other h1]
        refine ⟨fun j => by rw [g12 1 (by decide) (by decide)]; exact g8 j, fun r h0 h1 h4 => by rw [g12 r h0 h4, g0 r h1], fun j hj => ?_, ?_, ?_⟩
        · rw [e12, zup_other (by decide), e10, zup_self, if_neg hj, g0 0 (by decide)]
        · rw [e12, zup_other (by decide), e10, zup_eq, if_pos (by omega)]
        · rw [e12, zup_row, if_pos (by omega), e10, zup_other (by decide), g0 4 (by decide)]
    exact key
  | succ i ih =>
    intro n M hi hn hg
    obtain ⟨n, rfl⟩ : ∃ m, n = m + 1 := ⟨n - 1, by omega⟩
    have i1 : (((3216 : Int) + ((i + 1 : Nat) : Int)) - 1).toNat = 3216 + i := by omega
    have i2 : ((3216 : Int) + ((i + 1 : Nat) : Int)).toNat = 3216 + (i + 1) := by omega
    obtain ⟨M', r1, r2, r3, r4, r5, r6⟩ := ih n (zup M 1 (3216 + (i + 1)) (M 1 (3216 + i))) (by omega) (by omega) (by rw [zup_other (by decide)]; exact hg)
    refine ⟨M', ?_, fun j => ?_, fun r h0 h1 h4 => by rw [r3 r h0 h1 h4, zup_other h1], fun j hj => by rw [r4 j hj, zup_other (by decide)], by rw [r5, zup_other (by decide)], by rw [r6, zup_other (by decide), zup_other (by decide)]⟩
    · show sX8_went_20 N (fun x1 x3 M0 => fX8_went_20 N n x1 x3 M0) (k : Int) ((i + 1 : Nat) : Int) M = _
      unfold sX8_went_20 zg zi zl
      rw [i1, i2, if_pos (by constructor <;> omega), if_neg (by omega), if_pos (by omega), if_pos (by omega)]
      rw [show ((i + 1 : Nat) : Int) + (-1 : Int) = (i : Int) by omega]
      exact r1
    · rw [r2 j, zup_self, zup_self, zup_self]
      by_cases h1 : 3216 ≤ j ∧ j ≤ 3216 + i
      · rw [if_pos h1, if_pos (show 3216 ≤ j ∧ j ≤ 3216 + (i + 1) by omega)]
        by_cases h2 : j = 3216
        · rw [if_pos h2, if_pos h2]
        · rw [if_neg h2, if_neg h2, if_neg (show ¬ j - 1 = 3216 + (i + 1) by omega)]
      · rw [if_neg h1]
        by_cases h3 : j = 3214
        · rw [if_pos h3, if_neg (show ¬ (3216 ≤ j ∧ j ≤ 3216 + (i + 1)) by omega), if_pos h3, if_neg (show ¬ 3214 = 3216 + (i + 1) by omega)]
        · rw [if_neg h3]
          by_cases h4 : j = 3216 + (i + 1)
          · rw [if_pos h4, if_pos (show 3216 ≤ j ∧ j ≤ 3216 + (i + 1) by omega), if_neg (show ¬ j = 3216 by omega), h4]
            rfl
          · rw [if_neg h4, if_neg (show ¬ (3216 ≤ j ∧ j ≤ 3216 + (i + 1)) by omega), if_neg h3]
