/-! the component's store: what its queues' places hold */ -/
def zCI (Q : Nat → List Nat) (S : zM) : Prop := zQA (zpk is_3n5 S) Q (S 10) ∧ (∀ w, 1 ≤ w → w ≤ 4 → ∀ k, k ∈ Q w ↔ k < 400 ∧ S 9 k = (w : Int)) ∧ ∀ k, k < 400 → 0 ≤ S 9 k ∧ S 9 k ≤ 4
/-- key k leaves where it is, and is the newest at t -/
def zmv (Q : Nat → List Nat) (k t : Nat) : Nat → List Nat := fun w => (Q w).filter (fun x => decide (x ≠ k)) ++ (if w = t then [k] else [])
theorem zQA_congr {q : zM} {L L' : Nat → List Nat} {wt wt' : Nat → Int} (h : zQA q L wt) (hL : ∀ v, 1 ≤ v → v ≤ 4 → L' v = L v) (hw : ∀ v, 1 ≤ v → v ≤ 4 → ∀ k, k ∈ L v → wt' k = wt k) : zQA q L' wt' := by
  refine ⟨fun v hv hv4 => ?_, fun v u hv hv4 hu hu4 hvu => ?_⟩
  · rw [hL v hv hv4]
    exact ⟨(h.1 v hv hv4).1, (h.1 v hv hv4).2.trans (zsm_congr (fun k hk => (hw v hv hv4 k hk).symm))⟩
  · rw [hL v hv hv4, hL u hu hu4]
    exact h.2 v u hv hv4 hu hu4 hvu
theorem zu_row {M : zM} {k i : Nat} {v : Int} : zup M k i v k = zu (M k) i v := zup_row M k i v
/-- the rows of a store that its queues leave -/
def zoff (S S' : zM) : Prop := ∀ r, r ≠ 9 → (r < 3 ∨ 7 < r) → S' r = S r
theorem zoff_pt (S q : zM) : ∀ r, (r < 3 ∨ 7 < r) → zpt is_3n5 S q r = S r := by
  intro r hr
  unfold zpt
  have : zix is_3n5 r = none := by
    unfold is_3n5
    simp only [zix]
    rw [if_neg (by omega), if_neg (by omega), if_neg (by omega), if_neg (by omega), if_neg (by omega)]
    rfl
  rw [this]
theorem s_mv30 (N : Nat) {S : zM} {L : Nat → List Nat} {k t : Nat} (hA : zQA (zpk is_3n5 S) L (S 10)) (hk : k < 400) (hL : ∀ v, 1 ≤ v → v ≤ 4 → k ∉ L v) (ht : t ≤ 4) :
    ∃ S', sX3_move_30 N (k : Int) (t : Int) S = some S' ∧ zQA (zpk is_3n5 S') (fun v => L v ++ (if v = t then [k] else [])) (S' 10) ∧ S' 9 = zu (S 9) k t ∧ zoff S S' := by
  unfold sX3_move_30 zg zl zi
  dsimp only
  rw [if_pos (by omega), show ((k : Int)).toNat = k by omega, if_pos (by constructor <;> omega)]
  have hA1 : zQA (zpk is_3n5 (zup S 9 k t)) L (zup S 9 k t 10) := by
    rw [zup_other (by decide)]
    exact hA
  by_cases h0 : t = 0
  · rw [if_pos (by omega)]
    refine ⟨zup S 9 k t, rfl, zQA_congr hA1 (fun v hv hv4 => by rw [if_neg (by omega), List.append_nil]) (fun _ _ _ _ _ => rfl), zup_row S 9 k t, fun r hr _ => zup_other hr⟩
  · rw [if_neg (by omega)]
    obtain ⟨q', e1, h1⟩ := zQ_add N (t := t) hA1 (by omega) ht hk hL
    unfold zc
    rw [e1]
    refine ⟨zpt is_3n5 (zup S 9 k t) q', rfl, ?_, ?_, ?_⟩
    · have : zpt is_3n5 (zup S 9 k t) q' 10 = zup S 9 k t 10 := zoff_pt _ _ 10 (by omega)
      rw [this]
      exact h1
    · rw [zoff_pt _ _ 9 (by omega)]
      exact zup_row S 9 k t
    · intro r hr h7
      rw [zoff_pt _ _ r h7]
      exact zup_other hr
theorem zmv_mem {Q : Nat → List Nat} {k t w x : Nat} : x ∈ zmv Q k t w ↔ (x ∈ Q w ∧ x ≠ k) ∨ (x = k ∧ w = t) := by
  unfold zmv
  rw [List.mem_append]
  constructor
  · rintro (h | h)
    · exact Or.inl (zfil_sub h)
    · by_cases hw : w = t
      · rw [if_pos hw] at h
        simp at h
        exact Or.inr ⟨h, hw⟩
      · rw [if_neg hw] at h
        cases h
  · rintro (⟨h, h2⟩ | ⟨rfl, rfl⟩)
    · exact Or.inl (List.mem_filter.mpr ⟨h, by simpa using h2⟩)
    · right
      rw [if_pos rfl]
      simp
theorem s_move (N : Nat) {Q : Nat → List Nat} {S : zM} {k t : Nat} (h : zCI Q S) (hk : k < 400) (ht : t ≤ 4) :
    ∃ S', fX3_move N (k : Int) (t : Int) S = some S' ∧ zCI (zmv Q k t) S' ∧ S' 9 = zu (S 9) k t ∧ zoff S S' := by
  obtain ⟨hA, hm, hr⟩ := h
  obtain ⟨r0, r4⟩ := hr k hk
  obtain ⟨w, hw⟩ : ∃ w : Nat, S 9 k = (w : Int) := ⟨(S 9 k).toNat, by omega⟩
  have hw4 : w ≤ 4 := by omega
  have key : ∀ S1, zQA (zpk is_3n5 S1) (fun v => (Q v).filter (fun x => decide (x ≠ k))) (S1 10) → S1 9 = S 9 → zoff S S1 → ∃ S', sX3_move_30 N (k : Int) (t : Int) S1 = some S' ∧ zCI (zmv Q k t) S' ∧ S' 9 = zu (S 9) k t ∧ zoff S S' := by
    intro S1 hA1 h9 hoff
    obtain ⟨S', e1, e2, e3, e4⟩ := s_mv30 N hA1 hk (fun v hv hv4 q => (zfil_sub q).2 rfl) ht
    refine ⟨S', e1, ⟨e2, fun v hv hv4 x => ?_, fun x hx => ?_⟩, by rw [e3, h9], fun r hr h7 => (e4 r hr h7).trans (hoff r hr h7)⟩
    · rw [zmv_mem, hm v hv hv4 x, e3, h9]
      unfold zu
      by_cases hxk : x = k
      · subst hxk
        rw [if_pos rfl]
        constructor
        · rintro (⟨-, q⟩ | ⟨-, q⟩)
          · exact absurd rfl q
          · exact ⟨hk, by omega⟩
        · rintro ⟨-, q⟩
          exact Or.inr ⟨rfl, by omega⟩
      · rw [if_neg hxk]
        constructor
        · rintro (⟨q, -⟩ | ⟨q, -⟩)
          · exact q
          · exact absurd q hxk
        · intro q
          exact Or.inl ⟨q, hxk⟩
    · rw [e3, h9]
      unfold zu
      by_cases hxk : x = k
      · rw [if_pos hxk]; omega
      · rw [if_neg hxk]; exact hr x hx
  unfold fX3_move zg zl zi
  dsimp only
  rw [if_pos (by omega), show ((k : Int)).toNat = k by omega, hw, if_pos (by constructor <;> omega)]
  by_cases h0 : w = 0
  · rw [if_pos (by omega)]
    refine key S (zQA_congr hA (fun v hv hv4 => ?_) (fun _ _ _ _ _ => rfl)) rfl (fun _ _ _ => rfl)
    refine zfil_not (fun q => ?_)
    have := ((hm v hv hv4 k).mp q).2
    omega
  · rw [if_neg (by omega)]
    obtain ⟨q', e1, h1⟩ := zQ_remove N (w := w) (k := k) hA (by omega) hw4 ((hm w (by omega) hw4 k).mpr ⟨hk, hw⟩)
    unfold zc
    rw [e1]
    refine key (zpt is_3n5 S q') ?_ (zoff_pt _ _ 9 (by omega)) (fun r _ h7 => zoff_pt _ _ r h7)
    have : zpt is_3n5 S q' 10 = S 10 := zoff_pt _ _ 10 (by omega)
    rw [this]
    exact h1
/-- rows that its queues don't look at may change -/
theorem zCI_off {Q : Nat → List Nat} {S S' : zM} (h : zCI Q S) (h4 : S' 4 = S 4) (h5 : S' 5 = S 5) (h6 : S' 6 = S 6) (h7 : S' 7 = S 7) (h9 : S' 9 = S 9) (h10 : S' 10 = S 10) : zCI Q S' := by
  obtain ⟨⟨hA, hB⟩, hm, hr⟩ := h
  refine ⟨⟨fun w hw hw4 => ?_, hB⟩, ?_, ?_⟩
  · obtain ⟨⟨g1, g2, g3, g4⟩, g5⟩ := hA w hw hw4
    have g1 : S 4 w = ((Q w).length : Int) := g1
    have g2 : zCh (S 6) (S 7) (400 + w) (Q w) := g2
    have g5 : S 5 w = zsm (S 10) (Q w) := g5
    refine ⟨⟨?_, ?_, g3, g4⟩, ?_⟩
    · show S' 4 w = _
      rw [h4]; exact g1
    · show zCh (S' 6) (S' 7) (400 + w) (Q w)
      rw [h6, h7]; exact g2
    · show S' 5 w = zsm (S' 10) (Q w)
      rw [h5, h10]; exact g5
  · rw [h9]; exact hm
  · rw [h9]; exact hr
theorem zCI_len {Q : Nat → List Nat} {S : zM} (h : zCI Q S) {w : Nat} (hw : 1 ≤ w) (hw4 : w ≤ 4) : (Q w).length ≤ 400 := zQR_len (h.1.1 w hw hw4).1
theorem zCI_size {Q : Nat → List Nat} {S : zM} (h : zCI Q S) {w : Nat} (hw : 1 ≤ w) (hw4 : w ≤ 4) : S 4 w = ((Q w).length : Int) := (h.1.1 w hw hw4).1.1
theorem zCI_sum {Q : Nat → List Nat} {S : zM} (h : zCI Q S) {w : Nat} (hw : 1 ≤ w) (hw4 : w ≤ 4) : S 5 w = zsm (S 10) (Q w) := (h.1.1 w hw hw4).2
theorem zCI_nd {Q : Nat → List Nat} {S : zM} (h : zCI Q S) {w : Nat} (hw : 1 ≤ w) (hw4 : w ≤ 4) : (Q w).Nodup := (h.1.1 w hw hw4).1.2.2.2
theorem zCI_mem {Q : Nat → List Nat} {S : zM} (h : zCI Q S) {w k : Nat} (hw : 1 ≤ w) (hw4 : w ≤ 4) : k ∈ Q w ↔ k < 400 ∧ S 9 k = (w : Int) := h.2.1 w hw hw4 k
theorem s_loose (N : Nat) {Q : Nat → List Nat} {S : zM} {w : Nat} (hN : 400 < N) (h : zCI Q S) (hw : 1 ≤ w) (hw4 : w ≤ 4) (hp : ∀ k, k < 400 → S 14 k = 0 ∨ S 14 k = 1) :
    fX2_oldestLoose N (w : Int) (zpk is_3n5_14n1 S) = some ((((Q w).find? (fun k => decide (S 14 k = 0))).elim (-5) Int.ofNat), zpk is_3n5_14n1 S) := by
  have hR := (h.1.1 w hw hw4).1
  have hR2 : zQR (zpk is_3n5_14n1 S) w (Q w) := hR
  refine zQ_loose N hN (by omega) hR2 (fun k hk => ?_)
  show zR (S 14 k)
  rcases hp k (hR.2.2.1 k hk) with q | q
  · rw [q]; decide
  · rw [q]; decide
theorem s_oldest (N : Nat) {Q : Nat → List Nat} {S : zM} {w : Nat} (h : zCI Q S) (hw : 1 ≤ w) (hw4 : w ≤ 4) : fX2_oldest N (w : Int) (zpk is_3n5 S) = some ((((Q w ++ [400 + w]).headD 0 : Nat) : Int), zpk is_3n5 S) :=
  zQ_oldest N (by omega) (h.1.1 w hw hw4).1
theorem zsm_ge {f : Nat → Int} {l : List Nat} (h : ∀ k, k ∈ l → 0 ≤ f k) : 0 ≤ zsm f l := by
  induction l with
  | nil => exact Int.le_refl 0
  | cons a l ih =>
    rw [zsm_cons]
    have := h a (by simp)
    have := ih (fun k hk => h k (by simp [hk]))
    omega
theorem zsm_le {f : Nat → Int} {l : List Nat} {m : Int} (h : ∀ k, k ∈ l → f k ≤ m) : zsm f l ≤ m * l.length := by
  induction l with
  | nil => simp [zsm]
  | cons a l ih =>
    rw [zsm_cons]
    have h1 := h a (by simp)
    have h2 := ih (fun k hk => h k (by simp [hk]))
    have : m * ((a :: l).length : Int) = m * (l.length : Int) + m := by
      simp [Int.mul_add]
    omega
