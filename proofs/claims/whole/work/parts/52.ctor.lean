/-! constructors' contracts -/
def yA (a h : Nat) : Nat → Prop := fun q => q = a ∨ h ≤ q
def yPre (D : va_G) (cs : Nat → ClassId) (ci : Nat) (fs : List Nat) (a h : Nat) : Array Value → State → Prop := va_Pc [.ref a] (fun U => va_P D vwCl (zv cs [(0, ci, fs)] (fun _ => a) (fun _ _ => 0)) U.heap ∧ va_K D vwCl (zt cs) U ∧ U.heap.size = h)
def yQ (D : va_G) (cs : Nat → ClassId) (L : List zD) (M : zM) (a h : Nat) : Array Value → State → Outcome → State → Prop := va_Qv (S := Nat → Nat) (fun α => α 0 = a ∧ ∀ k, 1 ≤ k → k < L.length → h ≤ α k) (fun α t => va_P D vwCl (zv cs L α M) t.heap ∧ va_D (fun _ => True) (zv cs L α M)) (yA a h)
theorem zv_zw {cs : Nat → ClassId} {L : List zD} {α : Nat → Nat} {M : zM} (h : L.all (fun d => decide (d.1 ≠ 4)) = true) : zv cs L α M = zw cs L α M := by
  apply List.ext_getElem?
  intro j
  by_cases hj : j < L.length
  · obtain ⟨d, hd⟩ : ∃ d, L[j]? = some d := ⟨_, List.getElem?_eq_getElem hj⟩
    rw [zv_at hd, zw_at hd]
    have h4 := List.all_eq_true.mp h d (List.mem_of_getElem? hd)
    have h4 : d.1 ≠ 4 := by simpa using h4
    obtain ⟨k, q, ts⟩ := d
    match k, h4 with
    | 0, _ => rfl
    | 1, _ => rfl
    | 2, _ => rfl
    | 3, _ => rfl
    | 4, h4 => exact absurd rfl h4
    | k + 5, _ => rfl
  · rw [List.getElem?_eq_none (by rw [zv_len]; omega), List.getElem?_eq_none (by rw [zw_len]; omega)]
