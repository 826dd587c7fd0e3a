/-! as both begin -/
def zS0 : zM := fun r j => if r = 1 then (if j = 0 then 20 else if j = 1 then 10 else if j = 2 then 2 else if j = 3 then 1 else 0) else if r = 6 ∨ r = 7 then (if 400 ≤ j then (j : Int) else 0) else 0
def zG0 (i : Nat) : Int := if i = 3200 then 20 else if i = 3201 then 10 else if i = 3202 then 2 else if i = 3203 then 1 else 0
theorem zS0_z {r j : Nat} (h1 : r ≠ 1) (h6 : r ≠ 6) (h7 : r ≠ 7) : zS0 r j = 0 := by
  unfold zS0
  rw [if_neg h1, if_neg (by omega)]
theorem zG0_z {i : Nat} (h : i < 3200 ∨ 3203 < i) : zG0 i = 0 := by
  unfold zG0
  rw [if_neg (by omega), if_neg (by omega), if_neg (by omega), if_neg (by omega)]
theorem zSim0 : zSim false 0 0 (fun _ => []) zS0 (fun r i => if r = 1 then zG0 i else 0) := by
  have s9 : ∀ k, zS0 9 k = 0 := fun k => zS0_z (by decide) (by decide) (by decide)
  have g0 : ∀ i : Nat, (fun (r i : Nat) => if r = 1 then zG0 i else 0) 1 i = zG0 i := fun i => if_pos rfl
  refine ⟨⟨⟨fun w hw hw4 => ⟨⟨?_, ?_, (fun k hk => by cases hk), List.nodup_nil⟩, ?_⟩, (fun w v _ _ _ _ _ k hk => by cases hk)⟩, fun w hw hw4 k => ?_, fun k hk => by rw [s9]; omega⟩, ⟨fun w hw hw4 => ⟨?_, fun k => ?_, List.Pairwise.nil, List.nodup_nil⟩, fun k hk => ?_, fun k hk => ?_, ?_, ?_⟩, fun k hk => ?_, ?_, ?_, ?_, fun k hk => ?_, ?_, ?_, fun q => by cases q⟩
  · show zS0 4 w = _
    rw [zS0_z (by decide) (by decide) (by decide)]; rfl
  · show zS0 6 (400 + w) = ((400 + w : Nat) : Int) ∧ zS0 7 (400 + w) = ((400 + w : Nat) : Int) ∧ True
    unfold zS0
    rw [if_neg (show ¬ (6 : Nat) = 1 by decide), if_pos (show (6 : Nat) = 6 ∨ (6 : Nat) = 7 by decide), if_pos (show 400 ≤ 400 + w by omega), if_neg (show ¬ (7 : Nat) = 1 by decide), if_pos (show (7 : Nat) = 6 ∨ (7 : Nat) = 7 by decide)]
    try rw [if_pos (show 400 ≤ 400 + w by omega)]
    exact ⟨rfl, rfl, trivial⟩
  · show zS0 5 w = _
    rw [zS0_z (by decide) (by decide) (by decide)]; rfl
  · constructor
    · intro q; cases q
    · rintro ⟨-, q⟩; rw [s9] at q; omega
  · rw [g0, zG0_z (by omega)]; rfl
  · constructor
    · intro q; cases q
    · rintro ⟨p, q⟩; rw [g0, zG0_z (by omega)] at q; omega
  · rw [g0, zG0_z (by omega)]; omega
  · rw [g0, g0, g0, zG0_z (i := k) (by omega), zG0_z (i := 2800 + k) (by omega), zG0_z (i := 3215) (by omega)]
    exact ⟨by omega, by omega, fun q => absurd rfl q⟩
  · rw [g0, zG0_z (by omega)]; omega
  · rw [g0, zG0_z (by omega)]; omega
  · rw [g0, g0, g0, g0, g0, g0, g0, zG0_z (i := k) (by omega), zG0_z (i := 400 + k) (by omega), zG0_z (i := 800 + k) (by omega), zG0_z (i := 1200 + k) (by omega), zG0_z (i := 1600 + k) (by omega), zG0_z (i := 2000 + k) (by omega), zG0_z (i := 2400 + k) (by omega)]
    exact ⟨(s9 k).symm, (zS0_z (by decide) (by decide) (by decide)).symm, (zS0_z (by decide) (by decide) (by decide)).symm, (zS0_z (by decide) (by decide) (by decide)).symm, (zS0_z (by decide) (by decide) (by decide)).symm, (zS0_z (by decide) (by decide) (by decide)).symm, (zS0_z (by decide) (by decide) (by decide)).symm⟩
  · exact ⟨⟨rfl, rfl, rfl, rfl⟩, rfl, rfl, rfl, rfl, rfl⟩
  · exact ⟨rfl, by decide, by decide, fun i hi hi2 => absurd hi2 (by rw [zS0_z (by decide) (by decide) (by decide)]; omega)⟩
  · exact ⟨rfl, by decide, by decide, fun i hi => absurd hi (by rw [zS0_z (by decide) (by decide) (by decide)]; omega)⟩
  · rw [zS0_z (r := 10) (by decide) (by decide) (by decide), zS0_z (r := 11) (by decide) (by decide) (by decide), zS0_z (r := 12) (by decide) (by decide) (by decide), zS0_z (r := 13) (by decide) (by decide) (by decide), zS0_z (r := 14) (by decide) (by decide) (by decide)]
    exact ⟨by omega, by omega, by omega, by omega, Or.inl rfl⟩
  · exact ⟨⟨by decide, by decide⟩, ⟨by decide, by decide⟩, ⟨by decide, by decide⟩, ⟨by decide, by decide⟩⟩
  · show 0 ≤ (0 : Int) ∧ (0 : Int) ≤ 400
    omega
/-- the memories that the two constructors leave -/
theorem zInv0 {MX MM : zM} (hS : zSame zS0 (zsh 1 MX)) (hG : ∀ i, i < 3253 → MM 1 i = zG0 i) (m3 : MM 0 3 = 0) (m5 : MM 0 5 = 0) (m7 : MM 0 7 = 0) (m12 : MM 0 12 = 0) (x43 : MX 43 1 = 0) (x05 : MX 0 5 = 0)
    (hT : ∀ i, i < 6 → MX (71 + 2 * i) 1 = -1 ∧ MX (71 + 2 * i) 2 = 0 ∧ MM 10 i = -1 ∧ MM 11 i = 0 ∧ ∀ j, j < 60 → MX (71 + 2 * i + 1) j = 0 ∧ MM (13 + 1 * i) j = 0) : zInv false 0 MX MM := by
  refine ⟨⟨⟨_, zSim_same zSim0 hS (fun i hi => by rw [hG i hi]; rfl) (by rw [m5]; omega)⟩, zRv_same (fun k hk => ?_) hS⟩, ⟨m3, fun q => by cases q⟩, ⟨by rw [x43, m7], by rw [x43]; omega, fun j hj => by rw [x43] at hj; omega⟩, ⟨0, by omega, x05, m12, fun t ht => by omega⟩, fun i hi => ?_⟩
  · rw [zS0_z (by decide) (by decide) (by decide)]; decide
  · obtain ⟨a1, a2, a3, a4, a5⟩ := hT i hi
    rw [a1, a2, a3, a4]
    exact ⟨rfl, by omega, rfl, by omega, fun _ => rfl, fun j hj => ⟨by rw [(a5 j hj).1, (a5 j hj).2], by rw [(a5 j hj).1]; decide⟩⟩
