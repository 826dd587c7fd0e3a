/-! image and undo -/
theorem zRv_same {S S' : zM} (h : zRv S) (hs : zSame S S') : zRv S' := fun k hk => by rw [hs.1 15 k hk]; exact h k hk
/-- the component's copy, between two stores of a memory -/
theorem x_copy (N : Nat) (hN : 6000 < N) {is : List Nat} {o s : Nat} (nd : va_nd is = true) (hl : is.length = 42) (ho : ∀ r, r ≤ 20 → is.getD r 0 = r + o) (hs : ∀ r, r ≤ 20 → is.getD (21 + r) 0 = r + s) (M : zM) :
    ∃ M', fX3_copyFrom N (zpk is M) = some M' ∧ (∀ r, ¬ (o ≤ r ∧ r ≤ o + 20) → zpt is M M' r = M r) ∧ zSame (zsh s M) (zsh o (zpt is M M')) := by
  obtain ⟨M', a1, a2, a3, a4, a5⟩ := s_copy N hN (zpk is M)
  have at' : ∀ r, r ≤ 20 → zsh o (zpt is M M') r = M' r := by
    intro r hr
    have h1 : is[r]? = some (r + o) := by
      have := ho r hr
      rw [List.getD_eq_getElem?_getD, List.getElem?_eq_getElem (by omega)] at this
      rw [List.getElem?_eq_getElem (by omega)]
      exact congrArg some this
    exact zpt_at nd h1
  refine ⟨M', a1, fun r hr => zpt_keep (fun j hj => ?_), fun r j hj => ?_, ?_, ?_⟩
  · have hj42 : j < 42 := by
      have := (List.getElem?_eq_some_iff.mp hj).1
      omega
    have hg : is.getD j 0 = r := by rw [List.getD_eq_getElem?_getD, hj]; rfl
    by_cases hj20 : j ≤ 20
    · have := ho j hj20
      omega
    · rw [a2 j (by omega)]
      show M (is.getD j 0) = M r
      rw [hg]
  · have hr : r ≤ 20 := by
      by_cases q : r ≤ 20
      · exact q
      · exfalso
        have : zlen r = 0 := by
          unfold zlen
          rw [List.getD_eq_getElem?_getD, List.getElem?_eq_none (by show 21 ≤ r; omega)]
          rfl
        omega
    rw [at' r hr, a3 r j hj]
    show M (is.getD (21 + r) 0) j = M (r + s) j
    rw [hs r hr]
  · rw [at' 16 (by decide), a4]
    show M (is.getD (21 + 16) 0) 1 = M (16 + s) 1
    rw [hs 16 (by decide)]
  · rw [at' 18 (by decide), a5]
    show M (is.getD (21 + 18) 0) 2 = M (18 + s) 2
    rw [hs 18 (by decide)]
/-- the reference's copy, between two rows of a memory -/
theorem r_copy (N : Nat) (hN : 6000 < N) {a b : Nat} (hab : b ≠ a) (M : zM) :
    ∃ M', fX8_copy N (zpk [a, b] M) = some M' ∧ (∀ r, r ≠ b → zpt [a, b] M M' r = M r) ∧ ∀ i, i < 3253 → zpt [a, b] M M' b i = M a i := by
  obtain ⟨M', a1, a2, a3⟩ := m_copy N hN (zpk [a, b] M)
  have za : zix [a, b] a = some 0 := by
    unfold zix
    rw [if_pos rfl]
  have zb : zix [a, b] b = some 1 := by
    unfold zix
    rw [if_neg hab]
    unfold zix
    rw [if_pos rfl]
    rfl
  refine ⟨M', a1, fun r hr => ?_, fun i hi => ?_⟩
  · by_cases hra : r = a
    · subst hra
      unfold zpt
      rw [za]
      exact a3
    · refine zpt_off (fun q => ?_)
      rcases List.mem_cons.mp q with q | q
      · exact hra q
      · rcases List.mem_cons.mp q with q | q
        · exact hr q
        · cases q
  · unfold zpt
    rw [zb]
    exact a2 i hi
theorem m_things (N : Nat) (hN : 400 < N) {c : Int} {Q : Nat → List Nat} {S M : zM} (h : zSim false 0 c Q S M) : fX8_manyAt N 1 M = some (S 4 1, M) ∧ fX8_manyAt N 2 M = some (S 4 2, M) := by
  have z1 := zCI_size h.ci (w := 1) (by omega) (by omega)
  have z2 := zCI_size h.ci (w := 2) (by omega) (by omega)
  rw [z1, z2]
  exact ⟨m_many N hN h.mi (w := 1) (by omega) (by omega), m_many N hN h.mi (w := 2) (by omega) (by omega)⟩
theorem st_image (N : Nat) (hN : 6000 < N) {K : Bool} {c : Int} {MX M0 MM : zM} (h : zInv K c MX MM) (h0 : ∀ r, r < 83 → M0 r = MX r) : zOk true (c + 130000) (fX7_image_t N M0) (fX8_image N MM) := by
  obtain ⟨⟨⟨Q, hs⟩, hv⟩, hk, ⟨t1, t2, t3⟩, ⟨n, n1, n2, n3, n4⟩, hp⟩ := h
  obtain ⟨M2, a1, a2, a3⟩ := x_copy N hN (is := is_83n21_1n21) (o := 83) (s := 1) (by decide) (by decide) (by decide) (by decide) M0
  obtain ⟨R2, b1, b2, b3⟩ := r_copy N hN (a := 1) (b := 3) (by decide) MM
  have a2' : ∀ r, r < 83 → zpt is_83n21_1n21 M0 M2 r = MX r := fun r hr => (a2 r (by omega)).trans (h0 r hr)
  have rows1 : ∀ r, r ≤ 20 → zsh 1 (zpt is_83n21_1n21 M0 M2) r = zsh 1 MX r := fun r hr => a2' (r + 1) (by omega)
  have hs' : zSim false 0 (c + 130000) Q (zsh 1 (zpt is_83n21_1n21 M0 M2)) (zup (zpt [1, 3] MM R2) 0 3 1) := (zSim_M (zSim_rows hs rows1) (by rw [zup_other (by decide), b2 1 (by decide)]) (by rw [zup_self, if_neg (by decide), b2 0 (by decide)]) (by rw [zup_other (by decide), b2 4 (by decide)])).weak (by omega)
  obtain ⟨m1, m2⟩ := m_things N (by omega) hs'
  unfold fX7_image_t sX7_image_t_18 fX8_image
  refine zOk_cl a1 (zOk_ll (zOk_cr b1 (zOk_lr (zOk_lr (zOk_2r m1 (zOk_2r m2 (zOk_2l rfl (zOk_ll (zOk_s ?_ ?_)))))))))
  · rw [zpk_1 (by decide)]
  · rw [zpt_zpk]
    have sM : zSim false 0 c Q (zsh 1 M0) MM := zSim_rows hs (fun r hr => h0 (r + 1) (by omega))
    refine ⟨⟨⟨Q, hs'⟩, zRv_rows hv (rows1 15 (by decide))⟩, ⟨by rw [zup_eq]; rfl, fun _ => ⟨⟨Q, (zSim_same sM a3 (fun i hi => ?_) ?_).weak (by omega)⟩, zRv_same (zRv_rows hv (h0 16 (by decide))) a3⟩⟩, ⟨?_, ?_, ?_⟩, ⟨n, n1, ?_, ?_, fun t ht => zTre_fr (n4 t ht) (fun r hr => a2' (r + (46 + 4 * t)) (by omega)) (fun i _ _ => ?_) ?_⟩, fun i hi => ?_⟩
    · show zup (zpt [1, 3] MM R2) 0 3 1 3 i = MM 1 i
      rw [zup_other (by decide)]; exact b3 i hi
    · show 0 ≤ (0 : Int) ∧ (0 : Int) ≤ 400
      omega
    · rw [a2' 43 (by decide), zup_self, if_neg (by decide), b2 0 (by decide)]; exact t1
    · rw [a2' 43 (by decide)]; exact t2
    · rw [a2' 43 (by decide), a2' 44 (by decide), zup_other (by decide), b2 5 (by decide)]; exact t3
    · rw [a2' 0 (by decide)]; exact n2
    · rw [zup_self, if_neg (by decide), b2 0 (by decide)]; exact n3
    · rw [zup_other (by decide), zup_other (by decide), zup_other (by decide), b2 6 (by decide), b2 7 (by decide), b2 8 (by decide)]; exact ⟨rfl, rfl, rfl⟩
    · rw [zup_other (by decide), b2 9 (by decide)]
    · rw [a2' _ (by omega), a2' _ (by omega), zup_other (by decide), zup_other (by decide), zup_other (by omega), b2 10 (by decide), b2 11 (by decide), b2 (13 + 1 * i) (by omega)]
      exact hp i hi
theorem st_undo_f (N : Nat) {c : Int} {MX MM : zM} (h : zInv false c MX MM) : zOk false (c + 130000) (fX7_undo_f N MX) (fX8_undo N MM) := by
  have k1 : MM 0 3 = 0 := h.2.1.1
  unfold fX7_undo_f fX8_undo
  rw [k1]
  exact zOk_gr (by decide) (zOk_tr rfl (zOk_s rfl (h.weak (by omega))))
theorem st_undo_t (N : Nat) (hN : 6000 < N) {c : Int} {MX MM : zM} (h : zInv true c MX MM) : zOk true (c + 130000) (fX7_undo_t N MX) (fX8_undo N MM) := by
  have k1 : MM 0 3 = 1 := h.2.1.1
  obtain ⟨⟨⟨Q0, hs0⟩, hv0⟩, ⟨-, hk⟩, -⟩ := id h
  obtain ⟨⟨Q, hs⟩, hv⟩ := hk rfl
  obtain ⟨M2, a1, a2, a3⟩ := x_copy N hN (is := is_1n21_83n21) (o := 1) (s := 83) (by decide) (by decide) (by decide) (by decide) MX
  obtain ⟨R2, b1, b2, b3⟩ := r_copy N hN (a := 3) (b := 1) (by decide) MM
  have hs' : zSim false 0 c Q (zsh 1 (zpt is_1n21_83n21 MX M2)) (zpt [3, 1] MM R2) := zSim_same hs a3 (fun i hi => b3 i hi) (by rw [b2 0 (by decide)]; exact hs0.gg.1)
  obtain ⟨m1, m2⟩ := m_things N (by omega) hs'
  unfold fX7_undo_t fX8_undo
  rw [k1]
  refine zOk_cl a1 (zOk_ll (zOk_gr (by decide) (zOk_fr (by decide) (zOk_cr b1 (zOk_lr (zOk_2r m1 (zOk_2r m2 (zOk_2l rfl (zOk_ll (zOk_s ?_ ?_))))))))))
  · rw [zpk_1 (by decide)]
  · rw [zpt_zpk]
    exact zInv_live h ⟨⟨Q, hs'.weak (by omega)⟩, zRv_same hv a3⟩ (fun r hr => a2 r (by omega)) ⟨fun r hr _ => b2 r (by omega), b2 3 (by decide), fun j _ => by rw [b2 0 (by decide)]⟩ (by omega)
