/-! the reference's row of numbers: where each key is, and since when -/
def zMI (c : Int) (Q : Nat → List Nat) (g : Nat → Int) : Prop :=
  (∀ w, 1 ≤ w → w ≤ 4 → g (3204 + w) = zsm (fun k => g (800 + k)) (Q w) ∧ (∀ k, k ∈ Q w ↔ k < 400 ∧ g k = (w : Int)) ∧ (Q w).Pairwise (fun x y => g (2800 + x) < g (2800 + y)) ∧ (Q w).Nodup) ∧
  (∀ k, k < 400 → 0 ≤ g k ∧ g k ≤ 4) ∧ (∀ k, k < 400 → 0 ≤ g (2800 + k) ∧ g (2800 + k) ≤ g 3215 ∧ (g k ≠ 0 → g (2800 + k) < g 3215)) ∧ 0 ≤ g 3215 ∧ g 3215 ≤ c
/-- what goes() leaves of the row -/
def zgs (k t : Nat) (g g' : Nat → Int) : Prop := g' k = (t : Int) ∧ ∀ i, i ≠ k → i ≠ 2800 + k → ¬ (3204 ≤ i ∧ i ≤ 3208) → i ≠ 3215 → g' i = g i
theorem zidx {a : Nat} {k : Nat} : (((a : Nat) : Int) + (k : Int)).toNat = a + k := by omega
theorem m_goes (N : Nat) {c : Int} {Q : Nat → List Nat} {M : zM} {k t : Nat} (h : zMI c Q (M 1)) (hk : k < 400) (ht : t ≤ 4) :
    ∃ M', fX8_goes N (k : Int) (t : Int) M = some M' ∧ zMI (c + 1) (zmv Q k t) (M' 1) ∧ zgs k t (M 1) (M' 1) ∧ ∀ r, r ≠ 1 → M' r = M r := by
  obtain ⟨hq, hr, hs, hc0, hc⟩ := h
  obtain ⟨r0, r4⟩ := hr k hk
  obtain ⟨w, hw⟩ : ∃ w : Nat, M 1 k = (w : Int) := ⟨(M 1 k).toNat, by omega⟩
  have hw4 : w ≤ 4 := by omega
  have i0 : ((0 : Int) + (k : Int)).toNat = k := by omega
  have i8 : ((800 : Int) + (k : Int)).toNat = 800 + k := by omega
  have i28 : ((2800 : Int) + (k : Int)).toNat = 2800 + k := by omega
  have iw : ((3204 : Int) + (w : Int)).toNat = 3204 + w := by omega
  have it : ((3204 : Int) + (t : Int)).toNat = 3204 + t := by omega
  have key : zwp (fX8_goes N (k : Int) (t : Int) M) (fun M' => zMI (c + 1) (zmv Q k t) (M' 1) ∧ zgs k t (M 1) (M' 1) ∧ ∀ r, r ≠ 1 → M' r = M r) := by
    unfold fX8_goes
    rw [i0, hw, iw, i8, it, i28]
    refine zwp_g (by omega) (zwp_g (by omega) (zwp_g (by omega) (zwp_n (fun M4 e4 => zwp_n (fun M5 e5 => zwp_g (by omega) (zwp_n (fun M7 e7 => zwp_n (fun M8 e8 => zwp_g (by omega) (zwp_n (fun M10 e10 => zwp_s ?_))))))))))
    have f4 : ∀ i, M4 1 i = if i = 3204 + w then M 1 (3204 + w) - M 1 (800 + k) else M 1 i := fun i => by rw [e4, zup_self]
    have f5 : ∀ i, M5 1 i = if i = k then (t : Int) else M4 1 i := fun i => by rw [e5, zup_self]
    have f7 : ∀ i, M7 1 i = if i = 3204 + t then M5 1 (3204 + t) + M5 1 (800 + k) else M5 1 i := fun i => by rw [e7, zup_self]
    have f8 : ∀ i, M8 1 i = if i = 3215 then M7 1 3215 + 1 else M7 1 i := fun i => by rw [e8, zup_self]
    have f10 : ∀ i, M10 1 i = if i = 2800 + k then M7 1 3215 else M8 1 i := fun i => by rw [e10, zup_self]
    have c7 : M7 1 3215 = M 1 3215 := by rw [f7, if_neg (by omega), f5, if_neg (by omega), f4, if_neg (by omega)]
    have w5 : M5 1 (800 + k) = M 1 (800 + k) := by rw [f5, if_neg (by omega), f4, if_neg (by omega)]
    have gk : M10 1 k = (t : Int) := by rw [f10, if_neg (by omega), f8, if_neg (by omega), f7, if_neg (by omega), f5, if_pos rfl]
    have gs : M10 1 (2800 + k) = M 1 3215 := by rw [f10, if_pos rfl, c7]
    have gc : M10 1 3215 = M 1 3215 + 1 := by rw [f10, if_neg (by omega), f8, if_pos rfl, c7]
    have go : ∀ i, i ≠ k → i ≠ 2800 + k → ¬ (3204 ≤ i ∧ i ≤ 3208) → i ≠ 3215 → M10 1 i = M 1 i := fun i a1 a2 a3 a4 => by
      rw [f10, if_neg a2, f8, if_neg a4, f7, if_neg (by omega), f5, if_neg a1, f4, if_neg (by omega)]
    have gw : ∀ v, v ≤ 4 → M10 1 (3204 + v) = M 1 (3204 + v) - (if v = w then M 1 (800 + k) else 0) + (if v = t then M 1 (800 + k) else 0) := fun v hv => by
      rw [f10, if_neg (by omega), f8, if_neg (by omega), f7]
      have q5 : ∀ u, M5 1 (3204 + u) = M 1 (3204 + u) - (if u = w then M 1 (800 + k) else 0) := fun u => by
        rw [f5, if_neg (by omega), f4]
        by_cases hu : u = w
        · subst hu; rw [if_pos rfl, if_pos rfl]
        · rw [if_neg (by omega), if_neg hu]; omega
      by_cases hvt : v = t
      · subst hvt
        rw [if_pos rfl, if_pos rfl, q5, w5]
      · rw [if_neg (by omega), if_neg hvt, q5]; omega
    have gr : ∀ r, r ≠ 1 → M10 r = M r := fun r hr => by
      rw [e10, zup_other hr, e8, zup_other hr, e7, zup_other hr, e5, zup_other hr, e4, zup_other hr]
    refine ⟨⟨fun v hv hv4 => ⟨?_, ?_, ?_, ?_⟩, ?_, ?_, by rw [gc]; omega, by rw [gc]; omega⟩, ⟨gk, go⟩, gr⟩
    · obtain ⟨q1, q2, q3, q4⟩ := hq v hv hv4
      rw [gw v hv4, q1]
      have e9 : zsm (fun x => M10 1 (800 + x)) (zmv Q k t v) = zsm (fun x => M 1 (800 + x)) (zmv Q k t v) := by
        refine zsm_congr (fun x hx => ?_)
        have : x < 400 := by
          rcases zmv_mem.mp hx with ⟨p1, -⟩ | ⟨p1, -⟩
          · exact ((q2 x).mp p1).1
          · omega
        exact go (800 + x) (by omega) (by omega) (by omega) (by omega)
      rw [e9]
      unfold zmv
      rw [zsm_app]
      have e8 : zsm (fun x => M 1 (800 + x)) (if v = t then [k] else []) = if v = t then M 1 (800 + k) else 0 := by
        by_cases hvt : v = t
        · rw [if_pos hvt, if_pos hvt, zsm_cons, zsm_nil]; omega
        · rw [if_neg hvt, if_neg hvt]; rfl
      rw [e8]
      by_cases hkv : k ∈ Q v
      · have hvw : v = w := by have := ((q2 k).mp hkv).2; omega
        obtain ⟨l1, l2, hl, hf⟩ := zfil q4 hkv
        rw [if_pos hvw, hf, hl, zsm_app, zsm_app, zsm_cons]
        omega
      · have hvw : v ≠ w := fun p => hkv ((q2 k).mpr ⟨hk, by omega⟩)
        rw [if_neg hvw, zfil_not hkv]
        omega
    · intro x
      rw [zmv_mem, (hq v hv hv4).2.1 x]
      by_cases hxk : x = k
      · subst hxk
        rw [gk]
        constructor
        · rintro (⟨-, p⟩ | ⟨-, p⟩)
          · exact absurd rfl p
          · exact ⟨hk, by omega⟩
        · rintro ⟨-, p⟩; exact Or.inr ⟨rfl, by omega⟩
      · constructor
        · rintro (⟨⟨p1, p2⟩, -⟩ | ⟨p, -⟩)
          · exact ⟨p1, by rw [go x hxk (by omega) (by omega) (by omega)]; exact p2⟩
          · exact absurd p hxk
        · rintro ⟨p1, p2⟩
          rw [go x hxk (by omega) (by omega) (by omega)] at p2
          exact Or.inl ⟨⟨p1, p2⟩, hxk⟩
    · obtain ⟨q1, q2, q3, q4⟩ := hq v hv hv4
      unfold zmv
      have old : ∀ x, x ∈ (Q v).filter (fun x => decide (x ≠ k)) → M10 1 (2800 + x) = M 1 (2800 + x) ∧ M 1 (2800 + x) < M 1 3215 := by
        intro x hx
        obtain ⟨p1, p2⟩ := zfil_sub hx
        obtain ⟨p3, p4⟩ := (q2 x).mp p1
        exact ⟨go (2800 + x) (by omega) (by omega) (by omega) (by omega), (hs x p3).2.2 (by omega)⟩
      refine List.pairwise_append.mpr ⟨?_, ?_, fun x hx y hy => ?_⟩
      · refine List.Pairwise.imp_of_mem (R := fun x y => M 1 (2800 + x) < M 1 (2800 + y)) (fun {x y} hx hy hxy => ?_) (q3.filter _)
        rw [(old x hx).1, (old y hy).1]
        exact hxy
      · by_cases hvt : v = t
        · rw [if_pos hvt]; simp
        · rw [if_neg hvt]; simp
      · by_cases hvt : v = t
        · rw [if_pos hvt] at hy
          simp at hy
          subst hy
          rw [(old x hx).1, gs]
          exact (old x hx).2
        · rw [if_neg hvt] at hy; cases hy
    · obtain ⟨q1, q2, q3, q4⟩ := hq v hv hv4
      unfold zmv
      refine List.nodup_append.mpr ⟨q4.filter _, ?_, fun x hx y hy => ?_⟩
      · by_cases hvt : v = t
        · rw [if_pos hvt]; simp
        · rw [if_neg hvt]; simp
      · by_cases hvt : v = t
        · rw [if_pos hvt] at hy
          simp at hy
          subst hy
          exact (zfil_sub hx).2
        · rw [if_neg hvt] at hy; cases hy
    · intro x hx
      by_cases hxk : x = k
      · subst hxk; rw [gk]; omega
      · rw [go x hxk (by omega) (by omega) (by omega)]; exact hr x hx
    · intro x hx
      rw [gc]
      by_cases hxk : x = k
      · subst hxk
        rw [gs, gk]
        exact ⟨hc0, by omega, fun _ => by omega⟩
      · rw [go (2800 + x) (by omega) (by omega) (by omega) (by omega), go x hxk (by omega) (by omega) (by omega)]
        obtain ⟨p1, p2, p3⟩ := hs x hx
        exact ⟨p1, by omega, fun p => by have := p3 p; omega⟩
  exact key
/-- the first in a list that is sorted -/
theorem zfind_none {l : List Nat} {P : Nat → Bool} (h : ∀ k, k ∈ l → P k = false) : l.find? P = none := by
  rw [List.find?_eq_none]
  intro k hk
  rw [h k hk]
  simp
theorem zfind_min {f : Nat → Int} {P : Nat → Bool} {b : Nat} : ∀ {l : List Nat}, l.Pairwise (fun x y => f x < f y) → b ∈ l → P b = true → (∀ k, k ∈ l → P k = true → f b ≤ f k) → l.find? P = some b
  | [], _, hb, _, _ => by cases hb
  | a :: l, hs, hb, hP, hm => by
    have hp := List.pairwise_cons.mp hs
    by_cases hPa : P a = true
    · rw [List.find?_cons_of_pos hPa]
      have h1 := hm a (by simp) hPa
      rcases List.mem_cons.mp hb with q | q
      · rw [q]
      · have := hp.1 b q
        omega
    · rw [List.find?_cons_of_neg hPa]
      rcases List.mem_cons.mp hb with q | q
      · exact absurd (q ▸ hP) hPa
      · exact zfind_min hp.2 q hP (fun k hk hPk => hm k (by simp [hk]) hPk)
/-- what oldest() looks for -/
def zcd (g : Nat → Int) (w free : Int) (k : Nat) : Prop := g k = w ∧ ¬ (free ≠ 0 ∧ g (2400 + k) = 1)
def zbo (g : Nat → Int) (w free : Int) (i : Nat) (b : Option Nat) : Prop := match b with
  | none => ∀ j, j < i → ¬ zcd g w free j
  | some b => b < i ∧ zcd g w free b ∧ ∀ j, j < i → zcd g w free j → g (2800 + b) ≤ g (2800 + j)
theorem m_old5 (N : Nat) {c : Int} {M : zM} {w free : Int} (hc : c ≤ 2147483647) (hw : zR w) (hfree : zR free) (hr : ∀ k, k < 400 → 0 ≤ M 1 k ∧ M 1 k ≤ 4) (hs : ∀ k, k < 400 → 0 ≤ M 1 (2800 + k) ∧ M 1 (2800 + k) ≤ c) (hp : ∀ k, k < 400 → M 1 (2400 + k) = 0 ∨ M 1 (2400 + k) = 1) :
    ∀ (d i n : Nat) (b : Option Nat), i + d = 400 → d < n → zbo (M 1) w free i b → ∃ b', fX8_oldest_5 N n w free (b.elim (-1) Int.ofNat) (i : Int) M = some (b'.elim (-1) Int.ofNat, M) ∧ zbo (M 1) w free 400 b' := by
  intro d
  induction d with
  | zero =>
    intro i n b hi hn hb
    obtain ⟨n, rfl⟩ : ∃ m, n = m + 1 := ⟨n - 1, by omega⟩
    refine ⟨b, ?_, by rw [show (400 : Nat) = i by omega]; exact hb⟩
    show sX8_oldest_5 N _ _ _ _ _ _ = _
    unfold sX8_oldest_5 zg zi
    rw [if_pos (by constructor <;> omega), if_pos (by omega)]
  | succ d ih =>
    intro i n b hi hn hb
    obtain ⟨n, rfl⟩ : ∃ m, n = m + 1 := ⟨n - 1, by omega⟩
    have hi4 : i < 400 := by omega
    obtain ⟨r0, r4⟩ := hr i hi4
    obtain ⟨s0, s4⟩ := hs i hi4
    have i0 : ((0 : Int) + (i : Int)).toNat = i := by omega
    have i24 : ((2400 : Int) + (i : Int)).toNat = 2400 + i := by omega
    have i28 : ((2800 : Int) + (i : Int)).toNat = 2800 + i := by omega
    -- the three ways on
    have keep : ¬ (zcd (M 1) w free i ∧ ∀ b0, b = some b0 → M 1 (2800 + i) < M 1 (2800 + b0)) → zbo (M 1) w free (i + 1) b := by
      intro hn
      cases b with
      | none =>
        intro j hj
        by_cases hji : j = i
        · subst hji
          exact fun q => hn ⟨q, fun b0 h => by cases h⟩
        · exact hb j (by omega)
      | some b0 =>
        obtain ⟨h1, h2, h3⟩ := hb
        refine ⟨by omega, h2, fun j hj hcj => ?_⟩
        by_cases hji : j = i
        · subst hji
          refine Int.not_lt.mp (fun q => hn ⟨hcj, fun b1 h => ?_⟩)
          cases h
          exact q
        · exact h3 j (by omega) hcj
    have take : zcd (M 1) w free i → (∀ b0, b = some b0 → M 1 (2800 + i) < M 1 (2800 + b0)) → zbo (M 1) w free (i + 1) (some i) := by
      intro hci hlt
      refine ⟨by omega, hci, fun j hj hcj => ?_⟩
      by_cases hji : j = i
      · subst hji; exact Int.le_refl _
      · cases b with
        | none => exact absurd hcj (hb j (by omega))
        | some b0 =>
          have := hlt b0 rfl
          have := hb.2.2 j (by omega) hcj
          omega
    have go : ∀ b', zbo (M 1) w free (i + 1) b' → ∃ b'', fX8_oldest_5 N n w free (b'.elim (-1) Int.ofNat) ((i : Int) + 1) M = some (b''.elim (-1) Int.ofNat, M) ∧ zbo (M 1) w free 400 b'' := by
      intro b' hb'
      have := ih (i + 1) n b' (by omega) (by omega) hb'
      rw [show ((i + 1 : Nat) : Int) = (i : Int) + 1 by omega] at this
      exact this
    show ∃ b', sX8_oldest_5 N (fun x1 x2 x3 x4 M0 => fX8_oldest_5 N n x1 x2 x3 x4 M0) w free (b.elim (-1) Int.ofNat) (i : Int) M = _ ∧ _
    have j76 : ∀ x3, sX8_oldest_76 N (fun x1 x2 x3 x4 M0 => fX8_oldest_5 N n x1 x2 x3 x4 M0) w free x3 (i : Int) M = fX8_oldest_5 N n w free x3 ((i : Int) + 1) M := fun _ => rfl
    have j73 : sX8_oldest_73 N (fun x1 x2 x3 x4 M0 => fX8_oldest_5 N n x1 x2 x3 x4 M0) w free (i : Int) M = fX8_oldest_5 N n w free (i : Int) ((i : Int) + 1) M := rfl
    have j45 : zcd (M 1) w free i → ∃ b', sX8_oldest_45 N (fun x1 x2 x3 x4 M0 => fX8_oldest_5 N n x1 x2 x3 x4 M0) w free (b.elim (-1) Int.ofNat) (i : Int) M = some (b'.elim (-1) Int.ofNat, M) ∧ zbo (M 1) w free 400 b' := by
      intro hci
      cases b with
      | none =>
        show ∃ b', sX8_oldest_45 N (fun x1 x2 x3 x4 M0 => fX8_oldest_5 N n x1 x2 x3 x4 M0) w free (-1 : Int) (i : Int) M = _ ∧ _
        unfold sX8_oldest_45 zg zi
        rw [if_pos (by decide), if_pos (by decide), j73]
        exact go (some i) (take hci (fun b0 h => by cases h))
      | some b0 =>
        have hb0 := hb.1
        obtain ⟨t0, t4⟩ := hs b0 (by omega)
        have ib : ((2800 : Int) + (b0 : Int)).toNat = 2800 + b0 := by omega
        show ∃ b', sX8_oldest_45 N (fun x1 x2 x3 x4 M0 => fX8_oldest_5 N n x1 x2 x3 x4 M0) w free (b0 : Int) (i : Int) M = _ ∧ _
        unfold sX8_oldest_45 zg zi
        rw [ib, i28, if_pos (by constructor <;> omega), if_neg (by omega), if_pos (by omega), if_pos (by omega), if_pos (by constructor <;> omega), if_pos (by constructor <;> omega)]
        by_cases hle : M 1 (2800 + b0) ≤ M 1 (2800 + i)
        · rw [if_pos hle]
          refine (j76 (b0 : Int)) ▸ go (some b0) (keep (fun q => ?_))
          have := q.2 b0 rfl
          omega
        · rw [if_neg hle, j73]
          refine go (some i) (take hci (fun b1 h => ?_))
          cases h
          omega
    unfold sX8_oldest_5 zg zi
    rw [if_pos (by constructor <;> omega), if_neg (by omega), i0, if_pos (by omega), if_pos (by constructor <;> omega), if_pos hw]
    by_cases hiw : M 1 i = w
    · rw [if_pos hiw, if_pos hfree]
      by_cases hf0 : free = 0
      · rw [if_pos hf0]
        exact j45 ⟨hiw, fun q => q.1 hf0⟩
      · rw [if_neg hf0, i24, if_pos (by omega)]
        rcases hp i hi4 with q | q
        · rw [if_pos (by rw [q]; decide), if_neg (by rw [q]; decide)]
          exact j45 ⟨hiw, fun p => by rw [q] at p; exact absurd p.2 (by decide)⟩
        · rw [if_pos (by rw [q]; decide), if_pos q, j76]
          exact go b (keep (fun p => p.1.2 ⟨hf0, q⟩))
    · rw [if_neg hiw, j76]
      exact go b (keep (fun p => hiw p.1.1))
theorem m_oldest (N : Nat) {c : Int} {Q : Nat → List Nat} {M : zM} {w : Nat} {free : Int} (hN : 400 < N) (hc : c ≤ 2147483647) (h : zMI c Q (M 1)) (hp : ∀ k, k < 400 → M 1 (2400 + k) = 0 ∨ M 1 (2400 + k) = 1) (hw : 1 ≤ w) (hw4 : w ≤ 4) (hfree : zR free) :
    fX8_oldest N (w : Int) free M = some (((Q w).find? (fun k => decide (¬ (free ≠ 0 ∧ M 1 (2400 + k) = 1)))).elim (-1) Int.ofNat, M) := by
  obtain ⟨hq, hr, hs, hc0, hcc⟩ := h
  obtain ⟨b, e1, hb⟩ := m_old5 N (free := free) hc (w := (w : Int)) (by constructor <;> omega) hfree hr (fun k hk => ⟨(hs k hk).1, by have := (hs k hk).2.1; omega⟩) hp 400 0 N none (by omega) hN (fun j hj => by omega)
  have e1 : fX8_oldest N (w : Int) free M = some (b.elim (-1) Int.ofNat, M) := e1
  rw [e1]
  obtain ⟨q1, q2, q3, q4⟩ := hq w hw hw4
  have : (Q w).find? (fun k => decide (¬ (free ≠ 0 ∧ M 1 (2400 + k) = 1))) = b := by
    cases b with
    | none =>
      refine zfind_none (fun k hk => ?_)
      obtain ⟨p1, p2⟩ := (q2 k).mp hk
      have := hb k p1
      simp only [decide_eq_false_iff_not]
      exact fun q => this ⟨p2, q⟩
    | some b0 =>
      obtain ⟨p1, p2, p3⟩ := hb
      refine zfind_min q3 ((q2 b0).mpr ⟨p1, p2.1⟩) (decide_eq_true p2.2) (fun k hk hPk => ?_)
      obtain ⟨p4, p5⟩ := (q2 k).mp hk
      exact p3 k p4 ⟨p5, of_decide_eq_true hPk⟩
  rw [this]
