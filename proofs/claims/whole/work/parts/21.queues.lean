/-! Queues: rows 1 sizes, 2 weights, 3 newer, 4 older of its own memory -/
theorem zR_of {a b : Int} (h1 : -2147483648 ≤ b) (h2 : b ≤ 2147483647) (h : a = b) : zR a := by subst h; exact ⟨h1, h2⟩
theorem zR_n {a : Int} {n : Nat} (h : a = (n : Int)) (hn : n ≤ 2147483647) : zR a := ⟨by omega, by omega⟩
theorem zn_le {l : List Nat} (hn : l.Nodup) {n : Nat} (h : ∀ k, k ∈ l → k < n) : l.length ≤ n := by
  have := List.Nodup.length_le_of_subset hn (l₂ := List.range n) (fun k hk => List.mem_range.mpr (h k hk))
  rwa [List.length_range] at this
/-- place w of a Queues holds the keys l -/
def zQR (q : zM) (w : Nat) (l : List Nat) : Prop := q 1 w = (l.length : Int) ∧ zCh (q 3) (q 4) (400 + w) l ∧ (∀ k, k ∈ l → k < 400) ∧ l.Nodup
theorem zQR_len {q : zM} {w : Nat} {l : List Nat} (h : zQR q w l) : l.length ≤ 400 := zn_le h.2.2.2 h.2.2.1
theorem zQR_head {q : zM} {w : Nat} {l : List Nat} (h : zQR q w l) : q 3 (400 + w) = ((l ++ [400 + w]).headD 0 : Nat) := by
  have := h.2.1
  unfold zCh at this
  cases l with
  | nil => exact this.1
  | cons x r => exact this.1
theorem zQR_next {q : zM} {w : Nat} {p s : List Nat} {k : Nat} (h : zQR q w (p ++ k :: s)) : q 3 k = ((s ++ [400 + w]).headD 0 : Nat) := by
  have := (zCh_split h.2.1).2
  cases s with
  | nil => exact this.1
  | cons x r => exact this.1
theorem zQ_oldest (N : Nat) {q : zM} {w : Nat} {l : List Nat} (hw : w < 5) (h : zQR q w l) : fX2_oldest N (w : Int) q = some ((((l ++ [400 + w]).headD 0 : Nat) : Int), q) := by
  unfold fX2_oldest zg
  rw [if_pos (by omega), show ((400 : Int) + (w : Int)).toNat = 400 + w by omega, zQR_head h]
theorem zhd_lt {s : List Nat} {w : Nat} (hw : w < 5) (h : ∀ k, k ∈ s → k < 400) : (s ++ [400 + w]).headD 0 < 405 := by
  cases s with
  | nil => show 400 + w < 405; omega
  | cons x r => have := h x (by simp); show x < 405; omega
/-- the first key that isn't pinned (row 5) -/
theorem zQ_loose9 (N : Nat) {q : zM} {w : Nat} {l : List Nat} (hw : w < 5) (h : zQR q w l) (hp : ∀ k, k ∈ l → zR (q 5 k)) : ∀ (s p : List Nat) (n : Nat), l = p ++ s → s.length < n →
    fX2_oldestLoose_9 N n (w : Int) (((s ++ [400 + w]).headD 0 : Nat) : Int) (p.length : Int) q = some (((s.find? (fun k => decide (q 5 k = 0))).elim (-5) Int.ofNat), q) := by
  intro s
  induction s with
  | nil =>
    intro p n hl hn
    obtain ⟨n, rfl⟩ : ∃ m, n = m + 1 := ⟨n - 1, by omega⟩
    show sX2_oldestLoose_9 N _ _ _ _ _ = _
    have h1 := h.1
    have hlen := zQR_len h
    rw [hl, List.append_nil] at h1 hlen
    unfold sX2_oldestLoose_9 zg zi
    rw [if_pos (by omega), if_pos (by constructor <;> omega), show ((w : Int)).toNat = w by omega, if_pos (by rw [h1]; constructor <;> omega), if_pos (by rw [h1]; omega)]
    rfl
  | cons k s ih =>
    intro p n hl hn
    obtain ⟨n, rfl⟩ : ∃ m, n = m + 1 := ⟨n - 1, by omega⟩
    show sX2_oldestLoose_9 N (fun x1 x3 x4 M0 => fX2_oldestLoose_9 N n x1 x3 x4 M0) (w : Int) (k : Int) (p.length : Int) q = _
    have h1 := h.1
    have hlen := zQR_len h
    have hk : k ∈ l := by rw [hl]; simp
    have hk4 := h.2.2.1 k hk
    rw [hl] at h1 hlen
    have hpl : p.length < (p ++ k :: s).length := by simp
    unfold sX2_oldestLoose_9 zg zi zl
    rw [if_pos (by omega), if_pos (by constructor <;> omega), show ((w : Int)).toNat = w by omega, if_pos (by rw [h1]; constructor <;> omega), if_neg (by rw [h1]; omega), if_pos (by omega), show ((k : Int)).toNat = k by omega, if_pos (hp k hk)]
    by_cases hz : q 5 k = 0
    · rw [if_pos hz, List.find?_cons_of_pos (by simpa using hz)]
      rfl
    · rw [if_neg hz, if_pos (by omega), List.find?_cons_of_neg (by simpa using hz), zQR_next (q := q) (w := w) (p := p) (s := s) (k := k) (by rw [← hl]; exact h)]
      have := ih (p ++ [k]) n (by rw [hl]; simp) (by simp at hn; omega)
      rw [show ((p ++ [k]).length : Int) = (p.length : Int) + 1 by simp] at this
      exact this
theorem zpk5 (q : zM) : ∀ r, r < 5 → zpk is_0n5 q r = q r := by
  intro r hr
  match r, hr with
  | 0, _ => rfl
  | 1, _ => rfl
  | 2, _ => rfl
  | 3, _ => rfl
  | 4, _ => rfl
theorem zQ_loose (N : Nat) {q : zM} {w : Nat} {l : List Nat} (hN : 400 < N) (hw : w < 5) (h : zQR q w l) (hp : ∀ k, k ∈ l → zR (q 5 k)) :
    fX2_oldestLoose N (w : Int) q = some (((l.find? (fun k => decide (q 5 k = 0))).elim (-5) Int.ofNat), q) := by
  unfold fX2_oldestLoose
  have h0 : zQR (zpk is_0n5 q) w l := h
  rw [zQ_oldest N hw h0]
  show fX2_oldestLoose_9 N N (w : Int) _ 0 (zpt is_0n5 q (zpk is_0n5 q)) = _
  rw [zpt_zpk]
  exact zQ_loose9 N hw h hp l [] N rfl (by have := zQR_len h; omega)
/-- the key at a place -/
theorem zQ_keyAt9 (N : Nat) {q : zM} {w : Nat} {l : List Nat} (hw : w < 5) (h : zQR q w l) (i : Int) (hi : 0 ≤ i ∧ i ≤ 2147483647) : ∀ (s p : List Nat) (n : Nat), l = p ++ s → s.length < n → (p.length : Int) ≤ i →
    fX2_keyAt_9 N n (w : Int) i (((s ++ [400 + w]).headD 0 : Nat) : Int) (p.length : Int) q = some (((l[i.toNat]?).elim (-5) Int.ofNat), q) := by
  intro s
  induction s with
  | nil =>
    intro p n hl hn hpi
    obtain ⟨n, rfl⟩ : ∃ m, n = m + 1 := ⟨n - 1, by omega⟩
    show sX2_keyAt_9 N _ _ _ _ _ _ = _
    have h1 := h.1
    have hlen := zQR_len h
    rw [List.append_nil] at hl
    subst hl
    unfold sX2_keyAt_9 zg zi
    rw [if_pos (by omega), if_pos (by constructor <;> omega), show ((w : Int)).toNat = w by omega, if_pos (by rw [h1]; constructor <;> omega), if_pos (by rw [h1]; omega), List.getElem?_eq_none (by omega)]
    rfl
  | cons k s ih =>
    intro p n hl hn hpi
    obtain ⟨n, rfl⟩ : ∃ m, n = m + 1 := ⟨n - 1, by omega⟩
    show sX2_keyAt_9 N (fun x1 x2 x3 x4 M0 => fX2_keyAt_9 N n x1 x2 x3 x4 M0) (w : Int) i (k : Int) (p.length : Int) q = _
    have h1 := h.1
    have hlen := zQR_len h
    have hk : k ∈ l := by rw [hl]; simp
    have hk4 := h.2.2.1 k hk
    have hpl : p.length < l.length := by rw [hl]; simp
    unfold sX2_keyAt_9 zg zi zl
    rw [if_pos (by omega), if_pos (by constructor <;> omega), show ((w : Int)).toNat = w by omega, if_pos (by rw [h1]; constructor <;> omega), if_neg (by rw [h1]; omega), if_pos (by constructor <;> omega)]
    by_cases hz : (p.length : Int) = i
    · rw [if_pos hz]
      have : i.toNat = p.length := by omega
      rw [this, hl]
      simp
    · rw [if_neg hz, if_pos (by omega), show ((k : Int)).toNat = k by omega, zQR_next (q := q) (w := w) (p := p) (s := s) (k := k) (by rw [← hl]; exact h)]
      have := ih (p ++ [k]) n (by rw [hl]; simp) (by simp at hn; omega) (by simp; omega)
      rw [show ((p ++ [k]).length : Int) = (p.length : Int) + 1 by simp] at this
      exact this
theorem zQ_keyAt (N : Nat) {q : zM} {w : Nat} {l : List Nat} (hN : 400 < N) (hw : w < 5) (h : zQR q w l) (i : Int) (hi : 0 ≤ i ∧ i ≤ 2147483647) :
    fX2_keyAt N (w : Int) i q = some (((l[i.toNat]?).elim (-5) Int.ofNat), q) := by
  unfold fX2_keyAt
  rw [zQ_oldest N hw h]
  exact zQ_keyAt9 N hw h i hi l [] N rfl (by have := zQR_len h; omega) hi.1
/-- the place of a key -/
theorem zQ_placeOf9 (N : Nat) {q : zM} {w : Nat} {l : List Nat} (hw : w < 5) (h : zQR q w l) (x : Nat) (hx : x < 400) : ∀ (s p : List Nat) (n : Nat), l = p ++ s → s.length < n → x ∈ s →
    fX2_placeOf_9 N n (w : Int) (x : Int) (((s ++ [400 + w]).headD 0 : Nat) : Int) (p.length : Int) q = some (((p.length + s.idxOf x : Nat) : Int), q) := by
  intro s
  induction s with
  | nil => intro p n hl hn hxs; cases hxs
  | cons k s ih =>
    intro p n hl hn hxs
    obtain ⟨n, rfl⟩ : ∃ m, n = m + 1 := ⟨n - 1, by omega⟩
    show sX2_placeOf_9 N (fun x1 x2 x3 x4 M0 => fX2_placeOf_9 N n x1 x2 x3 x4 M0) (w : Int) (x : Int) (k : Int) (p.length : Int) q = _
    have h1 := h.1
    have hlen := zQR_len h
    have hk : k ∈ l := by rw [hl]; simp
    have hk4 := h.2.2.1 k hk
    have hpl : p.length < l.length := by rw [hl]; simp
    unfold sX2_placeOf_9 zg zi zl
    rw [if_pos (by omega), if_pos (by constructor <;> omega), show ((w : Int)).toNat = w by omega, if_pos (by rw [h1]; constructor <;> omega), if_neg (by rw [h1]; omega), if_pos (by constructor <;> omega), if_pos (by constructor <;> omega)]
    by_cases hz : k = x
    · subst hz
      rw [if_pos rfl]
      simp
    · have hxs2 : x ∈ s := by
        rcases List.mem_cons.mp hxs with q1 | q1
        · exact absurd q1.symm hz
        · exact q1
      rw [if_neg (by omega), if_pos (by omega), show ((k : Int)).toNat = k by omega, zQR_next (q := q) (w := w) (p := p) (s := s) (k := k) (by rw [← hl]; exact h)]
      have := ih (p ++ [k]) n (by rw [hl]; simp) (by simp at hn; omega) hxs2
      rw [show ((p ++ [k]).length : Int) = (p.length : Int) + 1 by simp] at this
      refine this.trans ?_
      have hb : (k == x) = false := by simpa using hz
      rw [List.idxOf_cons, hb]
      simp
      omega
theorem zQ_placeOf (N : Nat) {q : zM} {w : Nat} {l : List Nat} (hN : 400 < N) (hw : w < 5) (h : zQR q w l) (x : Nat) (hx : x ∈ l) :
    fX2_placeOf N (w : Int) (x : Int) q = some (((l.idxOf x : Nat) : Int), q) := by
  unfold fX2_placeOf
  rw [zQ_oldest N hw h]
  have := zQ_placeOf9 N hw h x (h.2.2.1 x hx) l [] N rfl (by have := zQR_len h; omega) hx
  refine this.trans ?_
  simp
/-- what the keys of a list weigh together -/
def zsm (f : Nat → Int) (l : List Nat) : Int := (l.map f).sum
theorem zsm_app (f : Nat → Int) (a b : List Nat) : zsm f (a ++ b) = zsm f a + zsm f b := by
  unfold zsm
  rw [List.map_append, List.sum_append]
theorem zsm_cons (f : Nat → Int) (a : Nat) (b : List Nat) : zsm f (a :: b) = f a + zsm f b := by
  unfold zsm
  rw [List.map_cons, List.sum_cons]
theorem zsm_congr {f g : Nat → Int} {l : List Nat} (h : ∀ k, k ∈ l → f k = g k) : zsm f l = zsm g l := by
  unfold zsm
  rw [List.map_congr_left h]
theorem zsm_nil (f : Nat → Int) : zsm f [] = 0 := rfl
/-- all four places of a Queues -/
def zQA (q : zM) (L : Nat → List Nat) (wt : Nat → Int) : Prop :=
  (∀ w, 1 ≤ w → w ≤ 4 → zQR q w (L w) ∧ q 2 w = zsm wt (L w)) ∧ ∀ w v, 1 ≤ w → w ≤ 4 → 1 ≤ v → v ≤ 4 → w ≠ v → ∀ k, k ∈ L w → k ∉ L v
theorem zfil {l : List Nat} {k : Nat} (hn : l.Nodup) (hk : k ∈ l) : ∃ l1 l2, l = l1 ++ k :: l2 ∧ l.filter (fun x => decide (x ≠ k)) = l1 ++ l2 := by
  obtain ⟨l1, l2, h⟩ := List.append_of_mem hk
  refine ⟨l1, l2, h, ?_⟩
  subst h
  have hd := List.nodup_append.mp hn
  have h2 := List.nodup_cons.mp hd.2.1
  rw [List.filter_append, List.filter_cons_of_neg (by simp)]
  rw [List.filter_eq_self.mpr, List.filter_eq_self.mpr]
  · intro x hx
    simp only [decide_eq_true_eq]
    exact fun q => h2.1 (q ▸ hx)
  · intro x hx
    simp only [decide_eq_true_eq]
    exact fun q => hd.2.2 x hx k (by simp) q
theorem zfil_not {l : List Nat} {k : Nat} (hk : k ∉ l) : l.filter (fun x => decide (x ≠ k)) = l := by
  rw [List.filter_eq_self]
  intro x hx
  simp only [decide_eq_true_eq]
  exact fun q => hk (q ▸ hx)
theorem zfil_sub {l : List Nat} {k x : Nat} (h : x ∈ l.filter (fun x => decide (x ≠ k))) : x ∈ l ∧ x ≠ k := by
  have := List.mem_filter.mp h
  exact ⟨this.1, by simpa using this.2⟩
theorem zQ_remove (N : Nat) {q : zM} {L : Nat → List Nat} {wt : Nat → Int} {w k : Nat} (h : zQA q L wt) (hw : 1 ≤ w) (hw4 : w ≤ 4) (hk : k ∈ L w) :
    ∃ q', fX2_remove N (w : Int) (k : Int) (wt k) q = some q' ∧ zQA q' (fun v => (L v).filter (fun x => decide (x ≠ k))) wt := by
  obtain ⟨hR, hS⟩ := h.1 w hw hw4
  obtain ⟨h1, hC, h4, hn⟩ := hR
  obtain ⟨l1, l2, hl, hf⟩ := zfil hn hk
  have hk4 := h4 k hk
  have hnc : ((400 + w) :: (l1 ++ k :: l2)).Nodup := by
    rw [← hl]
    exact List.nodup_cons.mpr ⟨fun q => by have := h4 _ q; omega, hn⟩
  rw [hl] at hC
  obtain ⟨a, b, e1, e2, ha, hb, hC'⟩ := zCh_remove hC hnc
  have ha5 : a < 405 := by
    rcases List.mem_cons.mp ha with q1 | q1
    · omega
    · have := h4 a (by rw [hl]; simp [q1]); omega
  have hb5 : b < 405 := by
    rcases List.mem_append.mp hb with q1 | q1
    · have := h4 b (by rw [hl]; simp [q1]); omega
    · simp at q1; omega
  have hak : k ≠ a := by
    intro q1
    have hd := List.nodup_cons.mp hnc
    rcases List.mem_cons.mp ha with q2 | q2
    · omega
    · exact (List.nodup_append.mp hd.2).2.2 a q2 k (by simp) q1.symm
  have hM3 : zup q 3 a (b : Int) 3 k = (b : Int) := by
    rw [zup_at, if_neg (fun q1 => hak q1.2), e2]
  have hM4 : zup q 3 a (b : Int) 4 k = (a : Int) := by
    rw [zup_other (by decide), e1]
  refine ⟨zup (zup (zup (zup q 3 a b) 4 b a) 1 w (q 1 w - 1)) 2 w (q 2 w - wt k), ?_, ?_⟩
  · unfold fX2_remove zg zl
    dsimp only
    rw [if_pos (by omega), show ((k : Int)).toNat = k by omega, e1, e2, if_pos (by omega), show ((a : Int)).toNat = a by omega, hM3, hM4, if_pos (by omega), show ((b : Int)).toNat = b by omega, if_pos (by omega), show ((w : Int)).toNat = w by omega]
    rfl
  · have r3 : ∀ x, zup (zup (zup (zup q 3 a b) 4 b a) 1 w (q 1 w - 1)) 2 w (q 2 w - wt k) 3 x = zu (q 3) a b x := fun x => by
      rw [zup_other (by decide), zup_other (by decide), zup_other (by decide), zup_row]
    have r4 : ∀ x, zup (zup (zup (zup q 3 a b) 4 b a) 1 w (q 1 w - 1)) 2 w (q 2 w - wt k) 4 x = zu (q 4) b a x := fun x => by
      rw [zup_other (by decide), zup_other (by decide), zup_row, zup_other (by decide)]
    have r1 : ∀ x, zup (zup (zup (zup q 3 a b) 4 b a) 1 w (q 1 w - 1)) 2 w (q 2 w - wt k) 1 x = zu (q 1) w (q 1 w - 1) x := fun x => by
      rw [zup_other (by decide), zup_row, zup_other (by decide), zup_other (by decide)]
    have r2 : ∀ x, zup (zup (zup (zup q 3 a b) 4 b a) 1 w (q 1 w - 1)) 2 w (q 2 w - wt k) 2 x = zu (q 2) w (q 2 w - wt k) x := fun x => by
      rw [zup_row, zup_other (by decide), zup_other (by decide), zup_other (by decide)]
    generalize zup (zup (zup (zup q 3 a b) 4 b a) 1 w (q 1 w - 1)) 2 w (q 2 w - wt k) = q' at r1 r2 r3 r4
    have e3 : q' 3 = zu (q 3) a b := funext r3
    have e4 : q' 4 = zu (q 4) b a := funext r4
    refine ⟨fun v hv hv4 => ?_, fun v u hv hv4 hu hu4 hvu x hx => fun hx2 => h.2 v u hv hv4 hu hu4 hvu x (zfil_sub hx).1 (zfil_sub hx2).1⟩
    by_cases hvw : v = w
    · subst hvw
      refine ⟨⟨?_, ?_, fun x hx => h4 x (zfil_sub hx).1, hn.filter _⟩, ?_⟩
      · show q' 1 v = (((L v).filter (fun x => decide (x ≠ k))).length : Int)
        rw [r1, hf, h1, hl]
        unfold zu
        rw [if_pos rfl]
        simp
        omega
      · show zCh (q' 3) (q' 4) (400 + v) ((L v).filter (fun x => decide (x ≠ k)))
        rw [e3, e4, hf]
        exact hC'
      · show q' 2 v = zsm wt ((L v).filter (fun x => decide (x ≠ k)))
        rw [r2, hf, hS, hl]
        unfold zu
        rw [if_pos rfl, zsm_app, zsm_app, zsm_cons]
        omega
    · obtain ⟨⟨g1, g2, g3, g4⟩, g5⟩ := h.1 v hv hv4
      have hkv : k ∉ L v := fun q1 => h.2 w v hw hw4 hv hv4 (Ne.symm hvw) k hk q1
      show zQR q' v ((L v).filter (fun x => decide (x ≠ k))) ∧ q' 2 v = zsm wt ((L v).filter (fun x => decide (x ≠ k)))
      rw [zfil_not hkv]
      have other : ∀ x, x ∈ (400 + v) :: L v → ∀ y, y ∈ (400 + w) :: l1 ∨ y ∈ l2 ++ [400 + w] → x ≠ y := by
        intro x hx y hy hxy
        subst hxy
        have hyl : x = 400 + w ∨ x ∈ L w := by
          rw [hl]
          rcases hy with q1 | q1
          · rcases List.mem_cons.mp q1 with q2 | q2
            · exact Or.inl q2
            · exact Or.inr (by simp [q2])
          · rcases List.mem_append.mp q1 with q2 | q2
            · exact Or.inr (by simp [q2])
            · simp at q2; exact Or.inl q2
        rcases List.mem_cons.mp hx with q1 | q1
        · rcases hyl with q2 | q2
          · omega
          · have := h4 _ q2; omega
        · rcases hyl with q2 | q2
          · have := g3 _ q1; omega
          · exact h.2 w v hw hw4 hv hv4 (Ne.symm hvw) x q2 q1
      refine ⟨⟨?_, ?_, g3, g4⟩, ?_⟩
      · rw [r1]; unfold zu; rw [if_neg hvw]; exact g1
      · rw [e3, e4]
        refine zCh_other g2 (fun x hx => ?_) (fun x hx => ?_)
        · unfold zu; rw [if_neg (other x hx a (Or.inl ha))]
        · unfold zu; rw [if_neg (other x hx b (Or.inr hb))]
      · rw [r2]; unfold zu; rw [if_neg hvw]; exact g5
theorem zQ_add (N : Nat) {q : zM} {L : Nat → List Nat} {wt : Nat → Int} {t k : Nat} (h : zQA q L wt) (ht : 1 ≤ t) (ht4 : t ≤ 4) (hk4 : k < 400) (hk : ∀ v, 1 ≤ v → v ≤ 4 → k ∉ L v) :
    ∃ q', fX2_add N (t : Int) (k : Int) (wt k) q = some q' ∧ zQA q' (fun v => L v ++ (if v = t then [k] else [])) wt := by
  obtain ⟨hR, hS⟩ := h.1 t ht ht4
  obtain ⟨h1, hC, h4, hn⟩ := hR
  have hnc : ((400 + t) :: L t).Nodup := List.nodup_cons.mpr ⟨fun q => by have := h4 _ q; omega, hn⟩
  have hkc : k ∉ (400 + t) :: L t := fun q1 => by
    rcases List.mem_cons.mp q1 with q2 | q2
    · omega
    · exact hk t ht ht4 q2
  obtain ⟨a, e1, ha, hC'⟩ := zCh_add hC hnc hkc
  have ha5 : a < 405 := by
    rcases List.mem_cons.mp ha with q1 | q1
    · omega
    · have := h4 a q1; omega
  refine ⟨zup (zup (zup (zup (zup (zup q 3 a k) 4 k a) 3 k (400 + t : Nat)) 4 (400 + t) k) 1 t (q 1 t + 1)) 2 t (q 2 t + wt k), ?_, ?_⟩
  · unfold fX2_add zg zl
    dsimp only
    rw [show ((400 : Int) + (t : Int)) = ((400 + t : Nat) : Int) by omega, if_pos (by omega), show (((400 + t : Nat) : Int)).toNat = 400 + t by omega, e1, if_pos (by omega), show ((a : Int)).toNat = a by omega, if_pos (by omega), show ((k : Int)).toNat = k by omega, if_pos (by omega), show ((t : Int)).toNat = t by omega]
    rfl
  · have r3 : ∀ x, zup (zup (zup (zup (zup (zup q 3 a k) 4 k a) 3 k (400 + t : Nat)) 4 (400 + t) k) 1 t (q 1 t + 1)) 2 t (q 2 t + wt k) 3 x = zu (zu (q 3) a k) k (400 + t : Nat) x := fun x => by
      rw [zup_other (by decide), zup_other (by decide), zup_other (by decide), zup_row, zup_other (by decide), zup_row]
    have r4 : ∀ x, zup (zup (zup (zup (zup (zup q 3 a k) 4 k a) 3 k (400 + t : Nat)) 4 (400 + t) k) 1 t (q 1 t + 1)) 2 t (q 2 t + wt k) 4 x = zu (zu (q 4) k a) (400 + t) k x := fun x => by
      rw [zup_other (by decide), zup_other (by decide), zup_row, zup_other (by decide), zup_row, zup_other (by decide)]
    have r1 : ∀ x, zup (zup (zup (zup (zup (zup q 3 a k) 4 k a) 3 k (400 + t : Nat)) 4 (400 + t) k) 1 t (q 1 t + 1)) 2 t (q 2 t + wt k) 1 x = zu (q 1) t (q 1 t + 1) x := fun x => by
      rw [zup_other (by decide), zup_row, zup_other (by decide), zup_other (by decide), zup_other (by decide), zup_other (by decide)]
    have r2 : ∀ x, zup (zup (zup (zup (zup (zup q 3 a k) 4 k a) 3 k (400 + t : Nat)) 4 (400 + t) k) 1 t (q 1 t + 1)) 2 t (q 2 t + wt k) 2 x = zu (q 2) t (q 2 t + wt k) x := fun x => by
      rw [zup_row, zup_other (by decide), zup_other (by decide), zup_other (by decide), zup_other (by decide), zup_other (by decide)]
    generalize zup (zup (zup (zup (zup (zup q 3 a k) 4 k a) 3 k (400 + t : Nat)) 4 (400 + t) k) 1 t (q 1 t + 1)) 2 t (q 2 t + wt k) = q' at r1 r2 r3 r4
    have e3 : q' 3 = zu (zu (q 3) a k) k (400 + t : Nat) := funext r3
    have e4 : q' 4 = zu (zu (q 4) k a) (400 + t) k := funext r4
    refine ⟨fun v hv hv4 => ?_, fun v u hv hv4 hu hu4 hvu x hx hx2 => ?_⟩
    · by_cases hvt : v = t
      · subst hvt
        dsimp only
        rw [if_pos rfl]
        refine ⟨⟨?_, ?_, ?_, ?_⟩, ?_⟩
        · rw [r1]; unfold zu; rw [if_pos rfl, h1]; simp
        · rw [e3, e4]; exact hC'
        · intro x hx
          rcases List.mem_append.mp hx with q1 | q1
          · exact h4 x q1
          · simp at q1; omega
        · refine List.nodup_append.mpr ⟨hn, by simp, fun x hx y hy => ?_⟩
          simp at hy
          subst hy
          exact fun q1 => hk v ht ht4 (q1 ▸ hx)
        · rw [r2]; unfold zu; rw [if_pos rfl, zsm_app, zsm_cons, zsm_nil, hS]; omega
      · dsimp only
        rw [if_neg hvt, List.append_nil]
        obtain ⟨⟨g1, g2, g3, g4⟩, g5⟩ := h.1 v hv hv4
        have other : ∀ x, x ∈ (400 + v) :: L v → x ≠ a ∧ x ≠ k ∧ x ≠ 400 + t := by
          intro x hx
          have hx4 : x = 400 + v ∨ x ∈ L v := List.mem_cons.mp hx
          refine ⟨fun q1 => ?_, fun q1 => ?_, fun q1 => ?_⟩
          · subst q1
            rcases List.mem_cons.mp ha with q2 | q2
            · rcases hx4 with q3 | q3
              · omega
              · have := g3 _ q3; omega
            · rcases hx4 with q3 | q3
              · have := h4 _ q2; omega
              · exact h.2 v t hv hv4 ht ht4 hvt x q3 q2
          · subst q1
            rcases hx4 with q3 | q3
            · omega
            · exact hk v hv hv4 q3
          · rcases hx4 with q3 | q3
            · omega
            · have := g3 _ q3; omega
        refine ⟨⟨?_, ?_, g3, g4⟩, ?_⟩
        · rw [r1]; unfold zu; rw [if_neg hvt]; exact g1
        · rw [e3, e4]
          refine zCh_other g2 (fun x hx => ?_) (fun x hx => ?_)
          · obtain ⟨o1, o2, o3⟩ := other x hx
            unfold zu; rw [if_neg o2, if_neg o1]
          · obtain ⟨o1, o2, o3⟩ := other x hx
            unfold zu; rw [if_neg o3, if_neg o2]
        · rw [r2]; unfold zu; rw [if_neg hvt]; exact g5
    · have m : ∀ u', 1 ≤ u' → u' ≤ 4 → x ∈ L u' ++ (if u' = t then [k] else []) → x ∈ L u' ∨ (x = k ∧ u' = t) := by
        intro u' _ _ hm
        rcases List.mem_append.mp hm with q1 | q1
        · exact Or.inl q1
        · by_cases hq : u' = t
          · rw [if_pos hq] at q1; simp at q1; exact Or.inr ⟨q1, hq⟩
          · rw [if_neg hq] at q1; cases q1
      rcases m v hv hv4 hx with q1 | ⟨q1, q2⟩ <;> rcases m u hu hu4 hx2 with p1 | ⟨p1, p2⟩
      · exact h.2 v u hv hv4 hu hu4 hvu x q1 p1
      · exact hk v hv hv4 (p1 ▸ q1)
      · exact hk u hu hu4 (q1 ▸ p1)
      · omega
