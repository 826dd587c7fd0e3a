/-! the reference counts by looking at every key -/
def zpf (f : Nat → Int) (l : List Nat) (i : Nat) : Int := zsm f (l.filter (fun x => decide (x < i)))
theorem zpf_zero {f : Nat → Int} {l : List Nat} : zpf f l 0 = 0 := by
  unfold zpf
  have : l.filter (fun x => decide (x < 0)) = [] := by
    rw [List.filter_eq_nil_iff]
    intro x _
    simp
  rw [this]
  rfl
theorem zpf_all {f : Nat → Int} {l : List Nat} {n : Nat} (h : ∀ x, x ∈ l → x < n) : zpf f l n = zsm f l := by
  unfold zpf
  rw [List.filter_eq_self.mpr (fun x hx => by simpa using h x hx)]
theorem zpf_succ {f : Nat → Int} {i : Nat} : ∀ {l : List Nat}, l.Nodup → zpf f l (i + 1) = zpf f l i + if i ∈ l then f i else 0
  | [], _ => by unfold zpf; simp [zsm]
  | a :: l, hn => by
    have hd := List.nodup_cons.mp hn
    have ih := zpf_succ (f := f) (i := i) hd.2
    unfold zpf at ih ⊢
    by_cases ha : a < i
    · rw [List.filter_cons_of_pos (by simp; omega), List.filter_cons_of_pos (by simpa using ha), zsm_cons, zsm_cons, ih]
      by_cases hi : i ∈ l
      · rw [if_pos hi, if_pos (List.mem_cons_of_mem a hi)]; omega
      · rw [if_neg hi, if_neg (fun q => by
          rcases List.mem_cons.mp q with q | q
          · omega
          · exact hi q)]; omega
    · by_cases hai : a = i
      · subst hai
        rw [List.filter_cons_of_pos (by simp), List.filter_cons_of_neg (by simp), zsm_cons, ih, if_neg hd.1, if_pos (by simp)]
        omega
      · rw [List.filter_cons_of_neg (by simp; omega), List.filter_cons_of_neg (by simpa using ha), ih]
        by_cases hi : i ∈ l
        · rw [if_pos hi, if_pos (List.mem_cons_of_mem a hi)]
        · rw [if_neg hi, if_neg (fun q => by
            rcases List.mem_cons.mp q with q | q
            · omega
            · exact hi q)]
theorem zsm_one {l : List Nat} : zsm (fun _ => 1) l = (l.length : Int) := by
  induction l with
  | nil => rfl
  | cons a l ih => rw [zsm_cons, ih]; simp; omega
theorem zsm_zero {f : Nat → Int} {l : List Nat} (h : ∀ k, k ∈ l → f k = 0) : zsm f l = 0 := by
  induction l with
  | nil => rfl
  | cons a l ih => rw [zsm_cons, ih (fun k hk => h k (by simp [hk])), h a (by simp)]; rfl
theorem zsm_idx {f : Nat → Int} {x : Nat} : ∀ {l : List Nat}, l.Pairwise (fun a b => f a < f b) → x ∈ l → zsm (fun j => if f j < f x then 1 else 0) l = ((l.idxOf x : Nat) : Int)
  | [], _, h => by cases h
  | a :: l, hs, hx => by
    have hp := List.pairwise_cons.mp hs
    rw [zsm_cons, List.idxOf_cons]
    by_cases hax : a = x
    · subst hax
      rw [if_neg (by omega), zsm_zero (fun k hk => if_neg (by have := hp.1 k hk; omega))]
      simp
    · have hxl : x ∈ l := by
        rcases List.mem_cons.mp hx with q | q
        · exact absurd q.symm hax
        · exact q
      have hb : (a == x) = false := by simpa using hax
      rw [if_pos (hp.1 x hxl), zsm_idx hp.2 hxl, hb]
      simp
      omega
theorem zidx_iff {k : Nat} : ∀ {l : List Nat} {j : Nat}, l.Nodup → (l[j]? = some k ↔ k ∈ l ∧ l.idxOf k = j)
  | [], j, _ => by simp
  | a :: l, j, hn => by
    have hd := List.nodup_cons.mp hn
    rw [List.idxOf_cons]
    by_cases hak : a = k
    · subst hak
      have hb : (a == a) = true := by simp
      rw [hb]
      cases j with
      | zero => simp
      | succ j =>
        constructor
        · intro q
          have : l[j]? = some a := by simpa using q
          exact absurd (List.mem_of_getElem? this) hd.1
        · rintro ⟨-, q⟩
          simp at q
    · have hb : (a == k) = false := by simpa using hak
      rw [hb]
      cases j with
      | zero =>
        constructor
        · intro q
          have : a = k := by simpa using q
          exact absurd this hak
        · rintro ⟨-, q⟩
          simp at q
      | succ j =>
        have ih := zidx_iff (k := k) (l := l) (j := j) hd.2
        have e : (a :: l)[j + 1]? = l[j]? := by simp
        rw [e, ih]
        constructor
        · rintro ⟨q1, q2⟩
          exact ⟨List.mem_cons_of_mem a q1, by simp; omega⟩
        · rintro ⟨q1, q2⟩
          refine ⟨?_, by simp at q2; omega⟩
          rcases List.mem_cons.mp q1 with q | q
          · exact absurd q.symm hak
          · exact q
section CNT
variable {c : Int} {Q : Nat → List Nat} {M : zM} {w : Nat}
theorem m_many4 (N : Nat) (h : zMI c Q (M 1)) (hw : 1 ≤ w) (hw4 : w ≤ 4) : ∀ (m n i : Nat), i + m = 400 → m < n → fX8_manyAt_4 N n (w : Int) (zpf (fun _ => 1) (Q w) i) (i : Int) M = some (((Q w).length : Int), M) := by
  obtain ⟨-, hm, -, hn⟩ := h.1 w hw hw4
  have hr := h.2.1
  intro m
  induction m with
  | zero =>
    intro n i hi hn'
    obtain ⟨n, rfl⟩ : ∃ x, n = x + 1 := ⟨n - 1, by omega⟩
    have hi4 : i = 400 := by omega
    subst hi4
    unfold fX8_manyAt_4 sX8_manyAt_4 zg zi
    rw [if_pos (by decide), if_pos (by decide), zpf_all (fun x hx => ((hm x).mp hx).1), zsm_one]
  | succ m ih =>
    intro n i hi hn'
    obtain ⟨n, rfl⟩ : ∃ x, n = x + 1 := ⟨n - 1, by omega⟩
    obtain ⟨r0, r4⟩ := hr i (by omega)
    have hd : fX8_manyAt_4 N (n + 1) (w : Int) (zpf (fun _ => 1) (Q w) i) (i : Int) M = sX8_manyAt_4 N (fun x1 x2 x3 M0 => fX8_manyAt_4 N n x1 x2 x3 M0) (w : Int) (zpf (fun _ => 1) (Q w) i) (i : Int) M := rfl
    have hs := zpf_succ (f := fun _ => 1) (i := i) hn
    have := ih n (i + 1) (by omega) (by omega)
    rw [hd]
    unfold sX8_manyAt_4 sX8_manyAt_29 zg zi zl
    dsimp only
    rw [show ((0 : Int) + (i : Int)).toNat = i by omega, if_pos (by constructor <;> omega), if_neg (by omega), if_pos (by omega), if_pos (by constructor <;> omega), if_pos (by constructor <;> omega), show (i : Int) + 1 = ((i + 1 : Nat) : Int) by omega]
    by_cases hiw : M 1 i = (w : Int)
    · rw [if_pos hiw]
      rw [if_pos ((hm i).mpr ⟨by omega, hiw⟩)] at hs
      rw [← hs]; exact this
    · rw [if_neg hiw]
      rw [if_neg (fun q => hiw ((hm i).mp q).2)] at hs
      rw [← hs]; exact this
theorem m_many (N : Nat) (hN : 400 < N) (h : zMI c Q (M 1)) (hw : 1 ≤ w) (hw4 : w ≤ 4) : fX8_manyAt N (w : Int) M = some (((Q w).length : Int), M) := by
  have := m_many4 N h hw hw4 400 N 0 (by omega) hN
  rw [zpf_zero] at this
  exact this
theorem m_place4 (N : Nat) (hc : c ≤ 2147483647) (h : zMI c Q (M 1)) (hw : 1 ≤ w) (hw4 : w ≤ 4) {x : Nat} (hx : x ∈ Q w) : ∀ (m n i : Nat), i + m = 400 → m < n → fX8_placeOf_4 N n (x : Int) (zpf (fun j => if M 1 (2800 + j) < M 1 (2800 + x) then 1 else 0) (Q w) i) (i : Int) M = some ((((Q w).idxOf x : Nat) : Int), M) := by
  obtain ⟨-, hm, hp, hn⟩ := h.1 w hw hw4
  have hr := h.2.1
  have hz := h.2.2.1
  have hcc := h.2.2.2.2
  obtain ⟨hx4, hxw⟩ := (hm x).mp hx
  intro m
  induction m with
  | zero =>
    intro n i hi hn'
    obtain ⟨n, rfl⟩ : ∃ x, n = x + 1 := ⟨n - 1, by omega⟩
    have hi4 : i = 400 := by omega
    subst hi4
    unfold fX8_placeOf_4 sX8_placeOf_4 zg zi
    rw [if_pos (by decide), if_pos (by decide), zpf_all (fun x hx => ((hm x).mp hx).1), zsm_idx hp hx]
  | succ m ih =>
    intro n i hi hn'
    obtain ⟨n, rfl⟩ : ∃ x, n = x + 1 := ⟨n - 1, by omega⟩
    obtain ⟨r0, r4⟩ := hr i (by omega)
    obtain ⟨z0, z1, -⟩ := hz i (by omega)
    obtain ⟨y0, y1, -⟩ := hz x hx4
    have hd : fX8_placeOf_4 N (n + 1) (x : Int) (zpf (fun j => if M 1 (2800 + j) < M 1 (2800 + x) then 1 else 0) (Q w) i) (i : Int) M = sX8_placeOf_4 N (fun x1 x2 x3 M0 => fX8_placeOf_4 N n x1 x2 x3 M0) (x : Int) (zpf (fun j => if M 1 (2800 + j) < M 1 (2800 + x) then 1 else 0) (Q w) i) (i : Int) M := rfl
    have hs := zpf_succ (f := fun j => if M 1 (2800 + j) < M 1 (2800 + x) then 1 else 0) (i := i) hn
    have := ih n (i + 1) (by omega) (by omega)
    generalize zpf (fun j => if M 1 (2800 + j) < M 1 (2800 + x) then 1 else 0) (Q w) (i + 1) = A at hs this
    generalize zpf (fun j => if M 1 (2800 + j) < M 1 (2800 + x) then 1 else 0) (Q w) i = B at hs hd
    rw [hd]
    unfold sX8_placeOf_4 sX8_placeOf_58 sX8_placeOf_59 zg zi zl
    dsimp only
    rw [show ((0 : Int) + (i : Int)).toNat = i by omega, show ((0 : Int) + (x : Int)).toNat = x by omega, show ((2800 : Int) + (i : Int)).toNat = 2800 + i by omega, show ((2800 : Int) + (x : Int)).toNat = 2800 + x by omega, if_pos (by constructor <;> omega), if_neg (by omega), if_pos (by omega), if_pos (by omega), if_pos (by constructor <;> omega), if_pos (by rw [hxw]; constructor <;> omega), show (i : Int) + 1 = ((i + 1 : Nat) : Int) by omega, hxw]
    by_cases hiw : M 1 i = (w : Int)
    · rw [if_pos hiw, if_pos (by omega), if_pos (by omega), if_pos (by constructor <;> omega), if_pos (by constructor <;> omega)]
      rw [if_pos ((hm i).mpr ⟨by omega, hiw⟩)] at hs
      by_cases hlt : M 1 (2800 + i) < M 1 (2800 + x)
      · rw [if_pos hlt] at hs
        rw [if_neg (by omega), ← hs]; exact this
      · rw [if_neg hlt] at hs
        rw [if_pos (by omega), ← hs]; exact this
    · rw [if_neg hiw]
      rw [if_neg (fun q => hiw ((hm i).mp q).2)] at hs
      rw [← hs]; exact this
theorem m_place (N : Nat) (hN : 400 < N) (hc : c ≤ 2147483647) (h : zMI c Q (M 1)) (hw : 1 ≤ w) (hw4 : w ≤ 4) {x : Nat} (hx : x ∈ Q w) : fX8_placeOf N (x : Int) M = some ((((Q w).idxOf x : Nat) : Int), M) := by
  have := m_place4 N hc h hw hw4 hx 400 N 0 (by omega) hN
  rw [zpf_zero] at this
  exact this
theorem m_keyAt2 (N : Nat) (hN : 400 < N) (hc : c ≤ 2147483647) (h : zMI c Q (M 1)) (hw : 1 ≤ w) (hw4 : w ≤ 4) {j : Int} (hj : 0 ≤ j ∧ j ≤ 2147483647) : ∀ (m n i : Nat), i + m = 400 → m < n → (∀ k, k < i → k ∈ Q w → ((Q w).idxOf k : Int) ≠ j) → fX8_keyAt_2 N n (w : Int) j (i : Int) M = some ((((Q w)[j.toNat]?).elim (-5) Int.ofNat), M) := by
  obtain ⟨-, hm, hp, hn⟩ := h.1 w hw hw4
  have hr := h.2.1
  have hlen : (Q w).length ≤ 400 := zn_le hn (fun k hk => ((hm k).mp hk).1)
  intro m
  induction m with
  | zero =>
    intro n i hi hn' hno
    obtain ⟨n, rfl⟩ : ∃ x, n = x + 1 := ⟨n - 1, by omega⟩
    have hi4 : i = 400 := by omega
    subst hi4
    have e : (Q w)[j.toNat]? = none := by
      cases hq : (Q w)[j.toNat]? with
      | none => rfl
      | some k =>
        obtain ⟨q1, q2⟩ := (zidx_iff hn).mp hq
        exact absurd (by omega) (hno k ((hm k).mp q1).1 q1)
    rw [e]
    unfold fX8_keyAt_2 sX8_keyAt_2 zg zi
    rw [if_pos (by decide), if_pos (by decide)]
    rfl
  | succ m ih =>
    intro n i hi hn' hno
    obtain ⟨n, rfl⟩ : ∃ x, n = x + 1 := ⟨n - 1, by omega⟩
    obtain ⟨r0, r4⟩ := hr i (by omega)
    have hd : fX8_keyAt_2 N (n + 1) (w : Int) j (i : Int) M = sX8_keyAt_2 N (fun x1 x2 x3 M0 => fX8_keyAt_2 N n x1 x2 x3 M0) (w : Int) j (i : Int) M := rfl
    rw [hd]
    unfold sX8_keyAt_2 sX8_keyAt_32 zg zi zl zc2
    dsimp only
    rw [show ((0 : Int) + (i : Int)).toNat = i by omega, if_pos (by constructor <;> omega), if_neg (by omega), if_pos (by omega), if_pos (by constructor <;> omega), if_pos (by constructor <;> omega), show (i : Int) + 1 = ((i + 1 : Nat) : Int) by omega]
    by_cases hiw : M 1 i = (w : Int)
    · have hiq : i ∈ Q w := (hm i).mpr ⟨by omega, hiw⟩
      have hil : (Q w).idxOf i < (Q w).length := List.idxOf_lt_length_iff.mpr hiq
      rw [if_pos hiw, m_place N hN hc h hw hw4 hiq]
      dsimp only
      rw [if_pos (by constructor <;> omega), if_pos (by constructor <;> omega)]
      by_cases hij : ((Q w).idxOf i : Int) = j
      · rw [if_pos hij, (zidx_iff (j := j.toNat) hn).mpr ⟨hiq, by omega⟩]
        rfl
      · rw [if_neg hij]
        refine ih n (i + 1) (by omega) (by omega) (fun k hk hkq => ?_)
        by_cases hki : k = i
        · subst hki; exact hij
        · exact hno k (by omega) hkq
    · rw [if_neg hiw]
      refine ih n (i + 1) (by omega) (by omega) (fun k hk hkq => ?_)
      by_cases hki : k = i
      · subst hki; exact absurd ((hm k).mp hkq).2 hiw
      · exact hno k (by omega) hkq
theorem m_keyAt (N : Nat) (hN : 400 < N) (hc : c ≤ 2147483647) (h : zMI c Q (M 1)) (hw : 1 ≤ w) (hw4 : w ≤ 4) {j : Int} (hj : 0 ≤ j ∧ j ≤ 2147483647) : fX8_keyAt N (w : Int) j M = some ((((Q w)[j.toNat]?).elim (-5) Int.ofNat), M) :=
  m_keyAt2 N hN hc h hw hw4 hj 400 N 0 (by omega) hN (fun k hk => by omega)
end CNT
