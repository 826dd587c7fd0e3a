theorem zup_same (M : zM) (k i : Nat) : zup M k i (M k i) = M := by
  funext a b
  rw [zup_at]
  by_cases h : a = k ∧ b = i
  · rw [if_pos h, h.1, h.2]
  · rw [if_neg h]
theorem zup_swap (M : zM) {k i k' i' : Nat} {v v' : Int} (h : k ≠ k' ∨ i ≠ i') : zup (zup M k i v) k' i' v' = zup (zup M k' i' v') k i v := by
  funext a b
  simp only [zup_at]
  by_cases h1 : a = k' ∧ b = i'
  · rw [if_pos h1]
    by_cases h2 : a = k ∧ b = i
    · omega
    · rw [if_neg h2, if_pos h1]
  · rw [if_neg h1]
    by_cases h2 : a = k ∧ b = i
    · rw [if_pos h2, if_pos h2]
    · rw [if_neg h2, if_neg h2, if_neg h1]
theorem zsm_zu {f : Nat → Int} {k : Nat} {v : Int} {l : List Nat} (hn : l.Nodup) : zsm (zu f k v) l = zsm f l + (if k ∈ l then v - f k else 0) := by
  by_cases hk : k ∈ l
  · rw [if_pos hk]
    obtain ⟨l1, l2, hl, -⟩ := zfil hn hk
    rw [hl] at hn ⊢
    have hd := List.nodup_append.mp hn
    have hd2 := List.nodup_cons.mp hd.2.1
    have c1 : zsm (zu f k v) l1 = zsm f l1 := zsm_congr (fun j hj => by unfold zu; rw [if_neg (fun q => hd.2.2 j hj k (by simp) q)])
    have c2 : zsm (zu f k v) l2 = zsm f l2 := zsm_congr (fun j hj => by unfold zu; rw [if_neg (fun (q : j = k) => hd2.1 (q ▸ hj))])
    have c3 : zu f k v k = v := by unfold zu; rw [if_pos rfl]
    rw [zsm_app, zsm_app, zsm_cons, zsm_cons, c1, c2, c3]
    omega
  · rw [if_neg hk]
    have : zsm (zu f k v) l = zsm f l := zsm_congr (fun j hj => by unfold zu; rw [if_neg (fun (q : j = k) => hk (q ▸ hj))])
    rw [this]
    omega
theorem zCI_congr {Q Q' : Nat → List Nat} {S : zM} (h : zCI Q S) (hq : ∀ w, 1 ≤ w → w ≤ 4 → Q' w = Q w) : zCI Q' S :=
  ⟨zQA_congr h.1 hq (fun _ _ _ _ _ => rfl), fun w hw hw4 k => by rw [hq w hw hw4]; exact h.2.1 w hw hw4 k, h.2.2⟩
theorem zMI_congr {c : Int} {Q Q' : Nat → List Nat} {g : Nat → Int} (h : zMI c Q g) (hq : ∀ w, 1 ≤ w → w ≤ 4 → Q' w = Q w) : zMI c Q' g :=
  ⟨fun w hw hw4 => by rw [hq w hw hw4]; exact h.1 w hw hw4, h.2⟩
theorem zmv_mv {Q : Nat → List Nat} {k t : Nat} {w : Nat} (hw : 1 ≤ w) : zmv (zmv Q k 0) k t w = zmv Q k t w := by
  unfold zmv
  rw [if_neg (show ¬ w = 0 by omega), List.append_nil, List.filter_filter]
  congr 2
  funext x
  simp
/-- a key that is nowhere is weighed anew -/
theorem zCI_w0 {Q : Nat → List Nat} {S : zM} (h : zCI Q S) {k : Nat} {v : Int} (hk : ∀ w, 1 ≤ w → w ≤ 4 → k ∉ Q w) : zCI Q (zup S 10 k v) := by
  obtain ⟨hA, hm, hr⟩ := h
  have e9 : zup S 10 k v 9 = S 9 := zup_other (by decide)
  refine ⟨?_, ?_, ?_⟩
  · have hA1 : zQA (zpk is_3n5 (zup S 10 k v)) Q (S 10) := hA
    refine zQA_congr hA1 (fun _ _ _ => rfl) (fun w hw hw4 j hj => ?_)
    rw [zup_self, if_neg (fun (q : j = k) => hk w hw hw4 (q ▸ hj))]
  · rw [e9]; exact hm
  · rw [e9]; exact hr
/-- a thing is weighed anew -/
theorem zCI_wt {Q : Nat → List Nat} {S : zM} (h : zCI Q S) {k x : Nat} {v : Int} (hx : 1 ≤ x) (hx4 : x ≤ 4) (hk : k < 400) (h9 : S 9 k = (x : Int)) : zCI Q (zup (zup S 5 x (S 5 x + (v - S 10 k))) 10 k v) := by
  obtain ⟨⟨hA, hB⟩, hm, hr⟩ := h
  have e9 : zup (zup S 5 x (S 5 x + (v - S 10 k))) 10 k v 9 = S 9 := by rw [zup_other (by decide), zup_other (by decide)]
  have e10 : zup (zup S 5 x (S 5 x + (v - S 10 k))) 10 k v 10 = zu (S 10) k v := by rw [zup_row, zup_other (by decide)]
  have e5 : zup (zup S 5 x (S 5 x + (v - S 10 k))) 10 k v 5 = zu (S 5) x (S 5 x + (v - S 10 k)) := by rw [zup_other (by decide), zup_row]
  have e4 : zup (zup S 5 x (S 5 x + (v - S 10 k))) 10 k v 4 = S 4 := by rw [zup_other (by decide), zup_other (by decide)]
  have e6 : zup (zup S 5 x (S 5 x + (v - S 10 k))) 10 k v 6 = S 6 := by rw [zup_other (by decide), zup_other (by decide)]
  have e7 : zup (zup S 5 x (S 5 x + (v - S 10 k))) 10 k v 7 = S 7 := by rw [zup_other (by decide), zup_other (by decide)]
  generalize zup (zup S 5 x (S 5 x + (v - S 10 k))) 10 k v = S' at e4 e5 e6 e7 e9 e10
  refine ⟨⟨fun w hw hw4 => ?_, hB⟩, ?_, ?_⟩
  · obtain ⟨⟨g1, g2, g3, g4⟩, g5⟩ := hA w hw hw4
    have g1 : S 4 w = ((Q w).length : Int) := g1
    have g2 : zCh (S 6) (S 7) (400 + w) (Q w) := g2
    have g5 : S 5 w = zsm (S 10) (Q w) := g5
    refine ⟨⟨?_, ?_, g3, g4⟩, ?_⟩
    · show S' 4 w = _
      rw [e4]; exact g1
    · show zCh (S' 6) (S' 7) (400 + w) (Q w)
      rw [e6, e7]; exact g2
    · show S' 5 w = zsm (S' 10) (Q w)
      rw [e5, e10, zsm_zu g4]
      unfold zu
      by_cases hwx : w = x
      · subst hwx
        rw [if_pos rfl, if_pos ((hm w hw hw4 k).mpr ⟨hk, h9⟩)]
        omega
      · rw [if_neg hwx, if_neg (fun q => by have := ((hm w hw hw4 k).mp q).2; omega)]
        omega
  · rw [e9]; exact hm
  · rw [e9]; exact hr
/-- the same on the reference's side, wherever the key is -/
theorem zMI_wt {c : Int} {Q : Nat → List Nat} {M : zM} (h : zMI c Q (M 1)) {k x : Nat} {v : Int} (hx4 : x ≤ 4) (hk : k < 400) (h9 : M 1 k = (x : Int)) : zMI c Q (zup (zup M 1 (3204 + x) (M 1 (3204 + x) + (v - M 1 (800 + k)))) 1 (800 + k) v 1) := by
  obtain ⟨a1, a2, a3, a4, a5⟩ := h
  have hg : ∀ i, zup (zup M 1 (3204 + x) (M 1 (3204 + x) + (v - M 1 (800 + k)))) 1 (800 + k) v 1 i = if i = 800 + k then v else if i = 3204 + x then M 1 (3204 + x) + (v - M 1 (800 + k)) else M 1 i := fun i => by
    rw [zup_self, zup_self]
  generalize zup (zup M 1 (3204 + x) (M 1 (3204 + x) + (v - M 1 (800 + k)))) 1 (800 + k) v 1 = g at hg
  have rest : ∀ i, i ≠ 800 + k → i ≠ 3204 + x → g i = M 1 i := fun i h1 h2 => by rw [hg, if_neg h1, if_neg h2]
  refine ⟨fun w hw hw4 => ?_, fun j hj => by rw [rest j (by omega) (by omega)]; exact a2 j hj, fun j hj => by rw [rest j (by omega) (by omega), rest (2800 + j) (by omega) (by omega), rest 3215 (by omega) (by omega)]; exact a3 j hj, by rw [rest 3215 (by omega) (by omega)]; exact a4, by rw [rest 3215 (by omega) (by omega)]; exact a5⟩
  obtain ⟨q1, q2, q3, q4⟩ := a1 w hw hw4
  refine ⟨?_, fun j => ?_, ?_, q4⟩
  · have e1 : zsm (fun j => g (800 + j)) (Q w) = zsm (zu (fun j => M 1 (800 + j)) k v) (Q w) := zsm_congr (fun j hj => by
      unfold zu
      by_cases hjk : j = k
      · rw [if_pos hjk, hg, if_pos (by omega)]
      · rw [if_neg hjk, rest (800 + j) (by omega) (by have := ((q2 j).mp hj).1; omega)])
    rw [e1, zsm_zu q4]
    by_cases hwx : w = x
    · subst hwx
      rw [hg, if_neg (by omega), if_pos rfl, if_pos ((q2 k).mpr ⟨hk, h9⟩), q1]
    · rw [rest (3204 + w) (by omega) (by omega), if_neg (fun q => by have := ((q2 k).mp q).2; omega), q1]
      omega
  · rw [q2 j]
    constructor
    · rintro ⟨p1, p2⟩; exact ⟨p1, by rw [rest j (by omega) (by omega)]; exact p2⟩
    · rintro ⟨p1, p2⟩; rw [rest j (by omega) (by omega)] at p2; exact ⟨p1, p2⟩
  · refine List.Pairwise.imp_of_mem (R := fun x y => M 1 (2800 + x) < M 1 (2800 + y)) (fun {a b} ha hb hab => ?_) q3
    rw [rest (2800 + a) (by omega) (by have := ((q2 a).mp ha).1; omega), rest (2800 + b) (by omega) (by have := ((q2 b).mp hb).1; omega)]
    exact hab
/-- a thing is weighed anew, on both sides -/
theorem zSim_wt {e : Bool} {b c : Int} {Q : Nat → List Nat} {S M : zM} (h : zSim e b c Q S M) {k x : Nat} {v : Int} (hx : 1 ≤ x) (hx4 : x ≤ 4) (hk : k < 400) (h9 : S 9 k = (x : Int)) (hv : 0 ≤ v ∧ v ≤ 9) :
    zSim e b c Q (zup (zup S 5 x (S 5 x + (v - S 10 k))) 10 k v) (zup (zup M 1 (3204 + x) (M 1 (3204 + x) + (v - M 1 (800 + k)))) 1 (800 + k) v) := by
  have hrS : ∀ r, r ≠ 5 → r ≠ 10 → zup (zup S 5 x (S 5 x + (v - S 10 k))) 10 k v r = S r := fun r h1 h2 => by rw [zup_other h2, zup_other h1]
  have hM : ∀ r, r ≠ 1 → zup (zup M 1 (3204 + x) (M 1 (3204 + x) + (v - M 1 (800 + k)))) 1 (800 + k) v r = M r := fun r h1 => by rw [zup_other h1, zup_other h1]
  have rest : ∀ i, i ≠ 800 + k → i ≠ 3204 + x → zup (zup M 1 (3204 + x) (M 1 (3204 + x) + (v - M 1 (800 + k)))) 1 (800 + k) v 1 i = M 1 i := fun i h1 h2 => by
    rw [zup_self, if_neg h1, zup_self, if_neg h2]
  have r8 : zup (zup M 1 (3204 + x) (M 1 (3204 + x) + (v - M 1 (800 + k)))) 1 (800 + k) v 1 (800 + k) = v := by rw [zup_eq]
  have e10 : ∀ j, zup (zup S 5 x (S 5 x + (v - S 10 k))) 10 k v 10 j = if j = k then v else S 10 j := fun j => by
    rw [zup_self, zup_other (by decide)]
  have hci := zCI_wt h.ci (v := v) hx hx4 hk h9
  have hmi := zMI_wt h.mi (v := v) hx4 hk (by rw [(h.ef k hk).1]; exact h9)
  generalize zup (zup S 5 x (S 5 x + (v - S 10 k))) 10 k v = S' at hrS e10 hci
  generalize zup (zup M 1 (3204 + x) (M 1 (3204 + x) + (v - M 1 (800 + k)))) 1 (800 + k) v = M' at hM rest r8 hmi
  refine ⟨hci, hmi, fun j hj => ?_, ?_, ?_, ?_, fun j hj => ?_, ?_, ?_⟩
  · obtain ⟨q1, q2, q3, q4, q5, q6, q7⟩ := h.ef j hj
    rw [rest j (by omega) (by omega), rest (400 + j) (by omega) (by omega), rest (1200 + j) (by omega) (by omega), rest (1600 + j) (by omega) (by omega), rest (2000 + j) (by omega) (by omega), rest (2400 + j) (by omega) (by omega), hrS 9 (by decide) (by decide), hrS 15 (by decide) (by decide), hrS 11 (by decide) (by decide), hrS 12 (by decide) (by decide), hrS 13 (by decide) (by decide), hrS 14 (by decide) (by decide)]
    refine ⟨q1, q2, ?_, q4, q5, q6, q7⟩
    rw [e10]
    by_cases hjk : j = k
    · subst hjk; rw [if_pos rfl]; exact r8
    · rw [if_neg hjk, rest (800 + j) (by omega) (by omega)]; exact q3
  · unfold zEs
    rw [rest 3200 (by omega) (by omega), rest 3201 (by omega) (by omega), rest 3202 (by omega) (by omega), rest 3203 (by omega) (by omega), rest 3209 (by omega) (by omega), rest 3210 (by omega) (by omega), rest 3211 (by omega) (by omega), rest 3212 (by omega) (by omega), rest 3213 (by omega) (by omega), hrS 1 (by decide) (by decide), hrS 2 (by decide) (by decide)]
    exact h.es
  · obtain ⟨b1, b2, b3, b4⟩ := h.eg
    unfold zEg
    rw [rest 3214 (by omega) (by omega), hrS 16 (by decide) (by decide), hrS 17 (by decide) (by decide)]
    exact ⟨b1, b2, b3, fun i hi hi2 => by rw [rest (3216 + i) (by omega) (by omega)]; exact b4 i hi hi2⟩
  · obtain ⟨b1, b2, b3, b4⟩ := h.eb
    unfold zEb
    rw [rest 3236 (by omega) (by omega), hrS 18 (by decide) (by decide), hrS 19 (by decide) (by decide), hrS 20 (by decide) (by decide)]
    exact ⟨b1, b2, b3, fun i hi => by rw [rest (3237 + 2 * i) (by omega) (by omega), rest (3238 + 2 * i) (by omega) (by omega)]; exact b4 i hi⟩
  · obtain ⟨q1, q2⟩ := h.rf j hj
    rw [e10, hrS 11 (by decide) (by decide), hrS 12 (by decide) (by decide), hrS 13 (by decide) (by decide), hrS 14 (by decide) (by decide)]
    refine ⟨?_, q2⟩
    by_cases hjk : j = k
    · rw [if_pos hjk]; exact hv
    · rw [if_neg hjk]; exact q1
  · unfold zRs
    rw [hrS 1 (by decide) (by decide)]
    exact h.rs
  · unfold zGg
    rw [hrS 16 (by decide) (by decide), hrS 17 (by decide) (by decide), hM 0 (by decide), hM 4 (by decide)]
    exact h.gg
