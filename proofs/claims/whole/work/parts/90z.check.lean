/-! what every method is -/
theorem ok_M0 : (List.range 29).all (fun i => okM (29 * 0 + i)) = true := by decide +kernel
theorem ok_M1 : (List.range 29).all (fun i => okM (29 * 1 + i)) = true := by decide +kernel
theorem ok_M2 : (List.range 29).all (fun i => okM (29 * 2 + i)) = true := by decide +kernel
theorem ok_M3 : (List.range 29).all (fun i => okM (29 * 3 + i)) = true := by decide +kernel
theorem ok_M4 : (List.range 29).all (fun i => okM (29 * 4 + i)) = true := by decide +kernel
theorem ok_M5 : (List.range 29).all (fun i => okM (29 * 5 + i)) = true := by decide +kernel
theorem ok_M6 : (List.range 29).all (fun i => okM (29 * 6 + i)) = true := by decide +kernel
theorem ok_M7 : (List.range 29).all (fun i => okM (29 * 7 + i)) = true := by decide +kernel
theorem hM : ∀ y, y < 232 → okM y = true := fun y hy => by
  have hy2 : 29 * (y / 29) + y % 29 = y := Nat.div_add_mod y 29
  have hr : y % 29 ∈ List.range 29 := List.mem_range.mpr (Nat.mod_lt y (by decide))
  have hq : y / 29 < 8 := by omega
  rw [← hy2]
  generalize y % 29 = r at hr
  rcases (show y / 29 = 0 ∨ y / 29 = 1 ∨ y / 29 = 2 ∨ y / 29 = 3 ∨ y / 29 = 4 ∨ y / 29 = 5 ∨ y / 29 = 6 ∨ y / 29 = 7 by omega) with e | e | e | e | e | e | e | e <;> rw [e]
  · exact List.all_eq_true.mp ok_M0 r hr
  · exact List.all_eq_true.mp ok_M1 r hr
  · exact List.all_eq_true.mp ok_M2 r hr
  · exact List.all_eq_true.mp ok_M3 r hr
  · exact List.all_eq_true.mp ok_M4 r hr
  · exact List.all_eq_true.mp ok_M5 r hr
  · exact List.all_eq_true.mp ok_M6 r hr
  · exact List.all_eq_true.mp ok_M7 r hr
