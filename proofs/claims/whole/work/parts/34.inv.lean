/-! the two sides' memories, and the calls on the store that is live -/
theorem zpk_1 {M : zM} {r : Nat} (hr : r ≤ 20) : zpk is_1n21 M r = zsh 1 M r := by
  have : ∀ r : Nat, r ≤ 20 → is_1n21.getD r 0 = r + 1 := by decide
  show M (is_1n21.getD r 0) = M (r + 1)
  rw [this r hr]
theorem zpk_22 {M : zM} {r : Nat} (hr : r ≤ 20) : zpk is_22n21 M r = zsh 22 M r := by
  have : ∀ r : Nat, r ≤ 20 → is_22n21.getD r 0 = r + 22 := by decide
  show M (is_22n21.getD r 0) = M (r + 22)
  rw [this r hr]
theorem zpt_1 {M q : zM} {r : Nat} (hr : r ≤ 20) : zsh 1 (zpt is_1n21 M q) r = q r := by
  rw [← zpk_1 hr]
  exact zpk_pt (by decide) (show r < 21 by omega)
theorem zpt_22 {M q : zM} {r : Nat} (hr : r ≤ 20) : zsh 22 (zpt is_22n21 M q) r = q r := by
  rw [← zpk_22 hr]
  exact zpk_pt (by decide) (show r < 21 by omega)
theorem zpt_1o {M q : zM} {r : Nat} (hr : r = 0 ∨ 21 < r) : zpt is_1n21 M q r = M r := by
  refine zpt_off (fun h => ?_)
  have : ∀ x ∈ is_1n21, 1 ≤ x ∧ x ≤ 21 := by decide
  have := this r h
  omega
theorem zpt_22o {M q : zM} {r : Nat} (hr : r < 22 ∨ 42 < r) : zpt is_22n21 M q r = M r := by
  refine zpt_off (fun h => ?_)
  have : ∀ x ∈ is_22n21, 22 ≤ x ∧ x ≤ 42 := by decide
  have := this r h
  omega
def zLive (c : Int) (MX MM : zM) : Prop := (∃ Q, zSim false 0 c Q (zsh 1 MX) MM) ∧ zRv (zsh 1 MX)
def zmk (MM : zM) : zM := fun r => if r = 1 then MM 3 else fun _ => 0
def zKept (K : Bool) (c : Int) (MX MM : zM) : Prop := MM 0 3 = (if K then 1 else 0) ∧ (K = true → (∃ Q, zSim false 0 c Q (zsh 83 MX) (zmk MM)) ∧ zRv (zsh 83 MX))
def zTxt (MX MM : zM) : Prop := MX 43 1 = MM 0 7 ∧ (0 ≤ MX 43 1 ∧ MX 43 1 ≤ 100) ∧ ∀ j : Nat, (j : Int) < MX 43 1 → MX 44 j = MM 5 j ∧ 0 ≤ MX 44 j ∧ MX 44 j ≤ 127
def zTrs (MX MM : zM) : Prop := ∃ n : Nat, n ≤ 6 ∧ MX 0 5 = (n : Int) ∧ MM 0 12 = (n : Int) ∧ ∀ t, t < n → zTre t (zsh (46 + 4 * t) MX) MM
def zTps (MX MM : zM) : Prop := ∀ i, i < 6 → MX (71 + 2 * i) 1 = MM 10 i ∧ (-1 ≤ MM 10 i ∧ MM 10 i ≤ 4) ∧ MX (71 + 2 * i) 2 = MM 11 i ∧ (0 ≤ MM 11 i ∧ MM 11 i ≤ 60) ∧ (MM 10 i = -1 → MM 11 i = 0) ∧ ∀ j, j < 60 → MX (71 + 2 * i + 1) j = MM (13 + 1 * i) j ∧ zRL (MX (71 + 2 * i + 1) j)
def zRest (K : Bool) (c : Int) (MX MM : zM) : Prop := zKept K c MX MM ∧ zTxt MX MM ∧ zTrs MX MM ∧ zTps MX MM
def zInv (K : Bool) (c : Int) (MX MM : zM) : Prop := zLive c MX MM ∧ zRest K c MX MM
/-- what calls on the live store leave -/
def zOff (MX MX' : zM) : Prop := ∀ r, r = 0 ∨ 42 < r → MX' r = MX r
def zOffM (MM MM' : zM) : Prop := (∀ r, 4 < r → r ≠ 19 → MM' r = MM r) ∧ MM' 3 = MM 3 ∧ ∀ j, j = 3 ∨ j = 7 ∨ j = 12 → MM' 0 j = MM 0 j
theorem zOff.rf {M : zM} : zOff M M := fun _ _ => rfl
theorem zOff.tr {M M1 M2 : zM} (h : zOff M M1) (h2 : zOff M1 M2) : zOff M M2 := fun r hr => (h2 r hr).trans (h r hr)
theorem zOffM.rf {M : zM} : zOffM M M := ⟨fun _ _ _ => rfl, rfl, fun _ _ => rfl⟩
theorem zOffM.tr {M M1 M2 : zM} (h : zOffM M M1) (h2 : zOffM M1 M2) : zOffM M M2 := ⟨fun r a b => (h2.1 r a b).trans (h.1 r a b), h2.2.1.trans h.2.1, fun j hj => (h2.2.2 j hj).trans (h.2.2 j hj)⟩
theorem zFrM.off {M M' : zM} (h : zFrM M M') : zOffM M M' := ⟨fun r a _ => h.1 r (by omega) (by omega) (by omega), h.1 3 (by decide) (by decide) (by decide), fun j hj => h.2 j (by omega)⟩
theorem zOff.pt1 {M q : zM} : zOff M (zpt is_1n21 M q) := fun r hr => zpt_1o (by omega)
theorem zOff.pt22 {M q : zM} : zOff M (zpt is_22n21 M q) := fun r hr => zpt_22o (by omega)
theorem zLive.weak {c c' : Int} {MX MM : zM} (h : zLive c MX MM) (hc : c ≤ c') : zLive c' MX MM := by
  obtain ⟨⟨Q, h1⟩, h2⟩ := h
  exact ⟨⟨Q, h1.weak hc⟩, h2⟩
theorem zTre_fr {t : Nat} {T T' M M' : zM} (h : zTre t T M) (hT : ∀ r, r ≤ 3 → T' r = T r) (h6 : ∀ i, t * 20 ≤ i → i < t * 20 + 20 → M' 6 i = M 6 i ∧ M' 7 i = M 7 i ∧ M' 8 i = M 8 i) (h9 : M' 9 t = M 9 t) : zTre t T' M' := by
  obtain ⟨sz, a1, a2, a3, a4⟩ := h
  refine ⟨sz, a1, by rw [hT 0 (by omega)]; exact a2, by rw [h9]; exact a3, fun i hi => ?_⟩
  obtain ⟨b6, b7, b8⟩ := h6 (t * 20 + i) (by omega) (by omega)
  rw [hT 1 (by omega), hT 2 (by omega), hT 3 (by omega), b6, b7, b8]
  exact a4 i hi
theorem zRest_fr {K : Bool} {c c' : Int} {MX MM MX' MM' : zM} (h : zRest K c MX MM) (hX : zOff MX MX') (hM : zOffM MM MM') (hc : c ≤ c') : zRest K c' MX' MM' := by
  obtain ⟨⟨k1, k2⟩, ⟨t1, t2, t3⟩, ⟨n, n1, n2, n3, n4⟩, hp⟩ := h
  refine ⟨⟨by rw [hM.2.2 3 (by omega)]; exact k1, fun q => ?_⟩, ⟨?_, ?_, ?_⟩, ⟨n, n1, by rw [hX 0 (by omega)]; exact n2, by rw [hM.2.2 12 (by omega)]; exact n3, fun t ht => zTre_fr (n4 t ht) (fun r hr => hX (r + (46 + 4 * t)) (by omega)) (fun i _ _ => ?_) ?_⟩, fun i hi => ?_⟩
  · obtain ⟨⟨Q, s1⟩, s2⟩ := k2 q
    have e : zmk MM' = zmk MM := by
      unfold zmk
      rw [hM.2.1]
    have e83 : ∀ r, zsh 83 MX' r = zsh 83 MX r := fun r => hX (r + 83) (by omega)
    refine ⟨⟨Q, ?_⟩, fun k hk => by rw [e83]; exact s2 k hk⟩
    rw [e]
    exact (zSim_rows s1 (fun r _ => e83 r)).weak hc
  · rw [hX 43 (by omega), hM.2.2 7 (by omega)]; exact t1
  · rw [hX 43 (by omega)]; exact t2
  · rw [hX 43 (by omega), hX 44 (by omega), hM.1 5 (by decide) (by decide)]; exact t3
  · rw [hM.1 6 (by decide) (by decide), hM.1 7 (by decide) (by decide), hM.1 8 (by decide) (by decide)]
    exact ⟨rfl, rfl, rfl⟩
  · rw [hM.1 9 (by decide) (by decide)]
  · rw [hX (71 + 2 * i) (by omega), hX (71 + 2 * i + 1) (by omega), hM.1 10 (by decide) (by decide), hM.1 11 (by decide) (by decide), hM.1 (13 + 1 * i) (by omega) (by omega)]
    exact hp i hi
theorem zInv_live {K : Bool} {c c' : Int} {MX MM MX' MM' : zM} (h : zInv K c MX MM) (hl : zLive c' MX' MM') (hX : zOff MX MX') (hM : zOffM MM MM') (hc : c ≤ c') : zInv K c' MX' MM' := ⟨hl, zRest_fr h.2 hX hM hc⟩
theorem zInv.weak {K : Bool} {c c' : Int} {MX MM : zM} (h : zInv K c MX MM) (hc : c ≤ c') : zInv K c' MX MM := zInv_live h (h.1.weak hc) .rf .rf hc
/-- both sides answer, and answer alike -/
def zOk (K : Bool) (c : Int) (x y : Option (Int × zM)) : Prop := ∃ r MX MM, x = some (r, MX) ∧ y = some (r, MM) ∧ zInv K c MX MM
section OKS
variable {K : Bool} {c : Int} {y : Option (Int × zM)}
theorem zOk_gl {p : Prop} [Decidable p] {x : Option (Int × zM)} (hp : p) (h : zOk K c x y) : zOk K c (zg p x) y := by
  unfold zg; rw [if_pos hp]; exact h
theorem zOk_gr {p : Prop} [Decidable p] {x : Option (Int × zM)} (hp : p) (h : zOk K c y x) : zOk K c y (zg p x) := by
  unfold zg; rw [if_pos hp]; exact h
theorem zOk_tl {p : Prop} [Decidable p] {x x' : Option (Int × zM)} (hp : p) (h : zOk K c x y) : zOk K c (zi p x x') y := by
  unfold zi; rw [if_pos hp]; exact h
theorem zOk_fl {p : Prop} [Decidable p] {x x' : Option (Int × zM)} (hp : ¬ p) (h : zOk K c x' y) : zOk K c (zi p x x') y := by
  unfold zi; rw [if_neg hp]; exact h
theorem zOk_tr {p : Prop} [Decidable p] {x x' : Option (Int × zM)} (hp : p) (h : zOk K c y x) : zOk K c y (zi p x x') := by
  unfold zi; rw [if_pos hp]; exact h
theorem zOk_fr {p : Prop} [Decidable p] {x x' : Option (Int × zM)} (hp : ¬ p) (h : zOk K c y x') : zOk K c y (zi p x x') := by
  unfold zi; rw [if_neg hp]; exact h
theorem zOk_il {p : Prop} [Decidable p] {x x' : Option (Int × zM)} (h1 : p → zOk K c x y) (h2 : ¬ p → zOk K c x' y) : zOk K c (zi p x x') y := by
  by_cases hp : p
  · exact zOk_tl hp (h1 hp)
  · exact zOk_fl hp (h2 hp)
theorem zOk_ll {α : Type} {a : α} {f : α → Option (Int × zM)} (h : zOk K c (f a) y) : zOk K c (zl a f) y := h
theorem zOk_lr {α : Type} {a : α} {f : α → Option (Int × zM)} (h : zOk K c y (f a)) : zOk K c y (zl a f) := h
theorem zOk_cl {α : Type} {x : Option α} {a : α} {f : α → Option (Int × zM)} (hx : x = some a) (h : zOk K c (f a) y) : zOk K c (zc x f) y := by
  subst hx; exact h
theorem zOk_cr {α : Type} {x : Option α} {a : α} {f : α → Option (Int × zM)} (hx : x = some a) (h : zOk K c y (f a)) : zOk K c y (zc x f) := by
  subst hx; exact h
theorem zOk_2l {α β : Type} {x : Option (α × β)} {a : α} {b : β} {f : α → β → Option (Int × zM)} (hx : x = some (a, b)) (h : zOk K c (f a b) y) : zOk K c (zc2 x f) y := by
  subst hx; exact h
theorem zOk_2r {α β : Type} {x : Option (α × β)} {a : α} {b : β} {f : α → β → Option (Int × zM)} (hx : x = some (a, b)) (h : zOk K c y (f a b)) : zOk K c y (zc2 x f) := by
  subst hx; exact h
theorem zOk_s {r r' : Int} {MX MM : zM} (hr : r = r') (h : zInv K c MX MM) : zOk K c (some (r, MX)) (some (r', MM)) := by
  subst hr; exact ⟨r, MX, MM, rfl, rfl, h⟩
end OKS
theorem zRv_rows {S S' : zM} (h : zRv S) (he : S' 15 = S 15) : zRv S' := fun k hk => by rw [he]; exact h k hk
/-! what is a key -/
theorem e_keyOf (N : Nat) {a1 a2 : Int} (h1 : zR a1) (h2 : zR a2) : fX7_keyOf N a1 a2 = some (if (0 ≤ a1 ∧ a1 ≤ 3) ∧ 0 ≤ a2 ∧ a2 ≤ 99 then 100 * a1 + a2 else -1) := by
  unfold fX7_keyOf zg zi
  rw [if_pos h1, if_pos h2]
  by_cases q1 : a1 < 0
  · rw [if_pos q1, if_neg (by omega)]
  · rw [if_neg q1]
    by_cases q2 : 4 ≤ a1
    · rw [if_pos q2, if_neg (by omega)]
    · rw [if_neg q2]
      by_cases q3 : a2 < 0
      · rw [if_pos q3, if_neg (by omega)]
      · rw [if_neg q3]
        by_cases q4 : a2 < 100
        · rw [if_pos q4, if_pos (by omega)]
          congr 1; omega
        · rw [if_neg q4, if_neg (by omega)]
theorem e_in (N : Nat) {a lo hi : Int} (h : zR a) (hl : zR lo) (hh : zR hi) : fX8_in N a lo hi = some (if lo ≤ a ∧ a ≤ hi then 1 else 0) := by
  unfold fX8_in zg zi
  rw [if_pos h, if_pos hl, if_pos hh]
  by_cases q1 : a < lo
  · rw [if_pos q1, if_neg (by omega)]
  · rw [if_neg q1]
    by_cases q2 : hi < a
    · rw [if_pos q2, if_neg (by omega)]
    · rw [if_neg q2, if_pos (by omega)]
theorem e_isKey (N : Nat) {a1 a2 : Int} (h1 : zR a1) (h2 : zR a2) : fX8_isKey N a1 a2 = some (if (0 ≤ a1 ∧ a1 ≤ 3) ∧ 0 ≤ a2 ∧ a2 ≤ 99 then 1 else 0) := by
  unfold fX8_isKey zg zi zc
  rw [e_in N h1 (by decide) (by decide), e_in N h2 (by decide) (by decide)]
  dsimp only
  by_cases q1 : 0 ≤ a1 ∧ a1 ≤ 3
  · by_cases q2 : 0 ≤ a2 ∧ a2 ≤ 99
    · rw [if_pos q1, if_pos (by decide), if_neg (by decide), if_pos q2, if_pos (by decide), if_neg (by decide), if_pos ⟨q1, q2⟩]
    · rw [if_pos q1, if_pos (by decide), if_neg (by decide), if_neg q2, if_pos (by decide), if_pos rfl, if_neg (fun q => q2 q.2)]
  · rw [if_neg q1, if_pos (by decide), if_pos rfl, if_neg (fun q => q1 q.1)]
theorem zLive_pt {c : Int} {Q : Nat → List Nat} {MX S MM : zM} (h : zSim false 0 c Q S MM) (hv : zRv S) : zLive c (zpt is_1n21 MX S) MM :=
  ⟨⟨Q, zSim_rows h (fun r hr => zpt_1 hr)⟩, zRv_rows hv (zpt_1 (by decide))⟩
theorem zLive_pk {c : Int} {MX MM : zM} (h : zLive c MX MM) : (∃ Q, zSim false 0 c Q (zpk is_1n21 MX) MM) ∧ zRv (zpk is_1n21 MX) := by
  obtain ⟨⟨Q, h1⟩, h2⟩ := h
  exact ⟨⟨Q, zSim_rows h1 (fun r hr => zpk_1 hr)⟩, zRv_rows h2 (zpk_1 (by decide))⟩
/-- put -/
theorem st_put (N : Nat) (hN : 6000 < N) {K : Bool} {c : Int} {MX MM : zM} (h : zInv K c MX MM) (hc : c + 130000 ≤ 1899990000) {a1 a2 a3 a4 a5 : Int} (h1 : zR a1) (h2 : zR a2) (h3 : zR a3) (h4 : zR a4) (h5 : zR a5) : zOk K (c + 130000) (fX7_put N a1 a2 a3 a4 a5 MX) (fX8_put N a1 a2 a3 a4 a5 MM) := by
  obtain ⟨⟨Q, hs⟩, hv⟩ := zLive_pk h.1
  have hw := h.weak (c' := c + 130000) (by omega)
  have p0 := hs.es.1.1
  have r10 := hs.rs.1
  have e2 : zpk is_1n21 MX 1 0 = MX 2 0 := by rw [zpk_1 (by decide)]; rfl
  rw [e2] at p0 r10
  unfold fX7_put fX8_put
  refine zOk_cl (e_keyOf N h1 h2) (zOk_cr (e_isKey N h1 h2) (zOk_ll ?_))
  by_cases hk : (0 ≤ a1 ∧ a1 ≤ 3) ∧ 0 ≤ a2 ∧ a2 ≤ 99
  · rw [if_pos hk, if_pos hk]
    refine zOk_gl (by constructor <;> omega) (zOk_tl (by omega) (zOk_gl h4 (zOk_gr (by decide) (zOk_fr (by decide) (zOk_cr (e_in N h4 (by decide) (by decide)) ?_)))))
    by_cases q4 : 1 ≤ a4 ∧ a4 ≤ 9
    · rw [if_pos q4]
      refine zOk_fl (by omega) (zOk_fl (by omega) (zOk_gl h5 (zOk_gr (by decide) (zOk_fr (by decide) (zOk_cr (e_in N h5 (by decide) (by decide)) ?_)))))
      by_cases q5 : 0 ≤ a5 ∧ a5 ≤ 99
      · rw [if_pos q5]
        refine zOk_fl (by omega) (zOk_tl (by omega) (zOk_gl (by constructor <;> omega) (zOk_gr (by decide) (zOk_fr (by decide) (zOk_gr h4 (zOk_gr (by constructor <;> omega) ?_))))))
        by_cases q6 : a4 ≤ MX 2 0
        · refine zOk_tl q6 (zOk_tr (by omega) ?_)
          obtain ⟨k, hk'⟩ : ∃ k : Nat, 100 * a1 + a2 = (k : Int) := ⟨(100 * a1 + a2).toNat, by omega⟩
          obtain ⟨r, Q', S', M', b1, b2, b3, b4, b5, b6, b7⟩ := sim_store N hN hs (k := k) (v := a3) (by omega) q4 q5 (by omega)
          rw [hk']
          refine zOk_2l b1 (zOk_2r b2 (zOk_ll (zOk_s rfl ?_)))
          refine zInv_live h ((zLive_pt b3 (fun j hj => ?_)).weak (by omega)) zOff.pt1 b6.off (by omega)
          rw [b7]
          split
          · exact h3
          · exact hv j hj
        · exact zOk_fl q6 (zOk_fr (by omega) (zOk_s rfl hw))
      · rw [if_neg q5]
        refine zOk_gr (by decide) (zOk_tr rfl ?_)
        by_cases q6 : a5 < 0
        · exact zOk_tl q6 (zOk_s rfl hw)
        · exact zOk_fl q6 (zOk_fl (by omega) (zOk_s rfl hw))
    · rw [if_neg q4]
      refine zOk_gr (by decide) (zOk_tr rfl ?_)
      by_cases q6 : a4 < 1
      · exact zOk_tl q6 (zOk_s rfl hw)
      · exact zOk_fl q6 (zOk_tl (by omega) (zOk_s rfl hw))
  · rw [if_neg hk, if_neg hk]
    exact zOk_gl (by decide) (zOk_fl (by decide) (zOk_gr (by decide) (zOk_tr rfl (zOk_s rfl hw))))
/-- get -/
theorem st_get (N : Nat) (hN : 6000 < N) {K : Bool} {c : Int} {MX MM : zM} (h : zInv K c MX MM) (hc : c + 130000 ≤ 1899990000) {a1 a2 : Int} (h1 : zR a1) (h2 : zR a2) : zOk K (c + 130000) (fX7_get N a1 a2 MX) (fX8_get N a1 a2 MM) := by
  obtain ⟨⟨Q, hs⟩, hv⟩ := zLive_pk h.1
  have hw := h.weak (c' := c + 130000) (by omega)
  unfold fX7_get fX8_get
  refine zOk_cl (e_keyOf N h1 h2) (zOk_cr (e_isKey N h1 h2) (zOk_ll ?_))
  by_cases hk : (0 ≤ a1 ∧ a1 ≤ 3) ∧ 0 ≤ a2 ∧ a2 ≤ 99
  · rw [if_pos hk, if_pos hk]
    obtain ⟨k, hk'⟩ : ∃ k : Nat, 100 * a1 + a2 = (k : Int) := ⟨(100 * a1 + a2).toNat, by omega⟩
    have hk4 : k < 400 := by omega
    rw [hk']
    refine zOk_gl (by constructor <;> omega) (zOk_tl (by omega) (zOk_gr (by decide) (zOk_fr (by decide) (zOk_lr ?_))))
    obtain ⟨r, Q', S', M', b1, b2, b3, b4, b5, b6, b7, b8⟩ := sim_fetch N hN hs hk4 (by omega)
    have ev : MM 1 (400 + k) = S' 15 k := by rw [b4]; exact (hs.ef k hk4).2.1
    have hv' : zRv S' := zRv_rows hv b4
    have hi : zInv K (c + 130000) (zpt is_1n21 MX S') M' := zInv_live h ((zLive_pt b3 hv').weak (by omega)) zOff.pt1 b6.off (by omega)
    have ev2 : zpt is_1n21 MX S' 16 k = S' 15 k := by
      have : zsh 1 (zpt is_1n21 MX S') 15 k = S' 15 k := by rw [zpt_1 (by decide)]
      exact this
    have hr01 : r = 0 ∨ r = 1 := by rw [b8]; split <;> simp
    have i4 : ((400 : Int) + (k : Int)).toNat = 400 + k := by omega
    refine zOk_2l b1 (zOk_ll (zOk_gl (by constructor <;> omega) (zOk_gr (by omega) (zOk_lr (zOk_2r b2 (zOk_gr (by constructor <;> omega) ?_))))))
    rw [i4, show ((k : Int)).toNat = k by omega, ev, ev2]
    rcases hr01 with rfl | rfl
    · exact zOk_tl rfl (zOk_tr rfl (zOk_s rfl hi))
    · exact zOk_fl (by decide) (zOk_fr (by decide) (zOk_gl (by omega) (zOk_gl (hv' k hk4) (zOk_gr (hv' k hk4) (zOk_s rfl hi)))))
  · rw [if_neg hk, if_neg hk]
    exact zOk_gl (by decide) (zOk_fl (by decide) (zOk_gr (by decide) (zOk_tr rfl (zOk_s rfl hw))))
/-- drop -/
theorem st_drop (N : Nat) {K : Bool} {c : Int} {MX MM : zM} (h : zInv K c MX MM) {a1 a2 : Int} (h1 : zR a1) (h2 : zR a2) : zOk K (c + 130000) (fX7_drop N a1 a2 MX) (fX8_drop N a1 a2 MM) := by
  obtain ⟨⟨Q, hs⟩, hv⟩ := zLive_pk h.1
  have hw := h.weak (c' := c + 130000) (by omega)
  unfold fX7_drop fX8_drop
  refine zOk_cl (e_keyOf N h1 h2) (zOk_cr (e_isKey N h1 h2) (zOk_ll ?_))
  by_cases hk : (0 ≤ a1 ∧ a1 ≤ 3) ∧ 0 ≤ a2 ∧ a2 ≤ 99
  · rw [if_pos hk, if_pos hk]
    obtain ⟨k, hk'⟩ : ∃ k : Nat, 100 * a1 + a2 = (k : Int) := ⟨(100 * a1 + a2).toNat, by omega⟩
    have hk4 : k < 400 := by omega
    rw [hk']
    obtain ⟨Q', S', M', b1, b2, b3, b4, b5, b6, b7⟩ := sim_drop N hs hk4
    refine zOk_gl (by constructor <;> omega) (zOk_tl (by omega) (zOk_gl (by omega) (zOk_ll (zOk_cl b1 (zOk_ll (zOk_gr (by decide) (zOk_fr (by decide) (zOk_2r b2 (zOk_s ?_ ?_)))))))))
    · rw [show ((k : Int)).toNat = k by omega, zpk_1 (by decide)]; rfl
    · exact zInv_live h ((zLive_pt b3 (zRv_rows hv b7)).weak (by omega)) zOff.pt1 b6.off (by omega)
  · rw [if_neg hk, if_neg hk]
    exact zOk_gl (by decide) (zOk_fl (by decide) (zOk_gr (by decide) (zOk_tr rfl (zOk_s rfl hw))))
/-- pin -/
theorem st_pin (N : Nat) {K : Bool} {c : Int} {MX MM : zM} (h : zInv K c MX MM) {a1 a2 a3 : Int} (h1 : zR a1) (h2 : zR a2) (h3 : zR a3) : zOk K (c + 130000) (fX7_pin N a1 a2 a3 MX) (fX8_pin N a1 a2 a3 MM) := by
  obtain ⟨⟨Q, hs⟩, hv⟩ := zLive_pk h.1
  have hw := h.weak (c' := c + 130000) (by omega)
  unfold fX7_pin fX8_pin
  refine zOk_cl (e_keyOf N h1 h2) (zOk_cr (e_isKey N h1 h2) (zOk_ll ?_))
  by_cases hk : (0 ≤ a1 ∧ a1 ≤ 3) ∧ 0 ≤ a2 ∧ a2 ≤ 99
  · rw [if_pos hk, if_pos hk]
    obtain ⟨k, hk'⟩ : ∃ k : Nat, 100 * a1 + a2 = (k : Int) := ⟨(100 * a1 + a2).toNat, by omega⟩
    have hk4 : k < 400 := by omega
    rw [hk']
    have r04 := hs.ci.2.2 k hk4
    have eS := s_isThing N (S := zpk is_1n21 MX) hk4 r04
    have q1 := (hs.ef k hk4).1
    have q7 := (hs.ef k hk4).2.2.2.2.2.2
    have eM := m_isThing N (M := MM) hk4 (by rw [q1]; exact r04)
    rw [q1] at eM
    refine zOk_gl (by constructor <;> omega) (zOk_tl (by omega) (zOk_2l eS (zOk_ll (zOk_gr (by decide) (zOk_fr (by decide) (zOk_lr (zOk_2r eM ?_)))))))
    rw [zpt_zpk]
    by_cases ht : zpk is_1n21 MX 9 k = 1 ∨ zpk is_1n21 MX 9 k = 2
    · rw [if_pos ht]
      have i4 : ((2400 : Int) + (k : Int)).toNat = 2400 + k := by omega
      have ik : ((k : Int)).toNat = k := by omega
      refine zOk_gl (by decide) (zOk_gr (by decide) (zOk_fl (by decide) (zOk_fr (by decide) (zOk_gl (by omega) (zOk_gr (by omega) (zOk_ll (zOk_lr (zOk_gl h3 (zOk_gr h3 ?_)))))))))
      have e15 : MX 15 k = MM 1 (2400 + k) := by rw [q7, zpk_1 (by decide)]; rfl
      have fin : ∀ v : Int, v = 0 ∨ v = 1 → zOk K (c + 130000) (sX7_pin_63 N (MX 15 (k : Int).toNat) v (k : Int) MX) (sX8_pin_62 N (MM 1 ((2400 : Int) + (k : Int)).toNat) v ((2400 : Int) + (k : Int)) MM) := by
        intro v hv01
        unfold sX7_pin_63 sX8_pin_62
        refine zOk_gl (by omega) (zOk_gr (by omega) (zOk_ll (zOk_lr ?_)))
        rw [i4, ik]
        refine zOk_s e15 ?_
        have hf := zSim_fact hs (r := 14) (o := 2400) (k := k) hk4 v (by omega) (zRf_up hs.rf (by omega))
        have rows : ∀ r, r ≤ 20 → zsh 1 (zup MX 15 k v) r = zup (zpk is_1n21 MX) 14 k v r := by
          intro r hr
          by_cases hr14 : r = 14
          · subst hr14
            rw [zup_row, zpk_1 (by decide)]
            exact zup_row MX 15 k v
          · rw [zup_other hr14, zpk_1 hr]
            exact zup_other (by omega)
        refine zInv_live h ⟨⟨Q, (zSim_rows hf rows).weak (by omega)⟩, ?_⟩ (fun r hr => zup_other (by omega)) zFrM.up.off (by omega)
        refine zRv_rows hv ?_
        rw [rows 15 (by decide), zup_other (by decide)]
      by_cases h30 : a3 = 0
      · exact zOk_tl h30 (zOk_tr h30 (fin 0 (by omega)))
      · exact zOk_fl h30 (zOk_fr h30 (fin 1 (by omega)))
    · rw [if_neg ht]
      exact zOk_gl (by decide) (zOk_gr (by decide) (zOk_tl rfl (zOk_tr rfl (zOk_s rfl hw))))
  · rw [if_neg hk, if_neg hk]
    exact zOk_gl (by decide) (zOk_fl (by decide) (zOk_gr (by decide) (zOk_tr rfl (zOk_s rfl hw))))
