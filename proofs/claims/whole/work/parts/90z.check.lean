/-! what every method is -/
theorem ok_M0 : (List.range 8).all (fun i => okM (8 * 0 + i)) = true := by decide +kernel
theorem ok_M1 : (List.range 8).all (fun i => okM (8 * 1 + i)) = true := by decide +kernel
theorem ok_M2 : (List.range 8).all (fun i => okM (8 * 2 + i)) = true := by decide +kernel
theorem ok_M3 : (List.range 8).all (fun i => okM (8 * 3 + i)) = true := by decide +kernel
theorem ok_M4 : (List.range 8).all (fun i => okM (8 * 4 + i)) = true := by decide +kernel
theorem ok_M5 : (List.range 8).all (fun i => okM (8 * 5 + i)) = true := by decide +kernel
theorem ok_M6 : (List.range 8).all (fun i => okM (8 * 6 + i)) = true := by decide +kernel
theorem ok_M7 : (List.range 8).all (fun i => okM (8 * 7 + i)) = true := by decide +kernel
theorem ok_M8 : (List.range 8).all (fun i => okM (8 * 8 + i)) = true := by decide +kernel
theorem ok_M9 : (List.range 8).all (fun i => okM (8 * 9 + i)) = true := by decide +kernel
theorem ok_M10 : (List.range 8).all (fun i => okM (8 * 10 + i)) = true := by decide +kernel
theorem ok_M11 : (List.range 8).all (fun i => okM (8 * 11 + i)) = true := by decide +kernel
theorem ok_M12 : (List.range 8).all (fun i => okM (8 * 12 + i)) = true := by decide +kernel
theorem ok_M13 : (List.range 8).all (fun i => okM (8 * 13 + i)) = true := by decide +kernel
theorem ok_M14 : (List.range 8).all (fun i => okM (8 * 14 + i)) = true := by decide +kernel
theorem ok_M15 : (List.range 8).all (fun i => okM (8 * 15 + i)) = true := by decide +kernel
theorem ok_M16 : (List.range 8).all (fun i => okM (8 * 16 + i)) = true := by decide +kernel
theorem ok_M17 : (List.range 8).all (fun i => okM (8 * 17 + i)) = true := by decide +kernel
theorem ok_M18 : (List.range 8).all (fun i => okM (8 * 18 + i)) = true := by decide +kernel
theorem ok_M19 : (List.range 8).all (fun i => okM (8 * 19 + i)) = true := by decide +kernel
theorem ok_M20 : (List.range 8).all (fun i => okM (8 * 20 + i)) = true := by decide +kernel
theorem ok_M21 : (List.range 8).all (fun i => okM (8 * 21 + i)) = true := by decide +kernel
theorem ok_M22 : (List.range 8).all (fun i => okM (8 * 22 + i)) = true := by decide +kernel
theorem ok_M23 : (List.range 8).all (fun i => okM (8 * 23 + i)) = true := by decide +kernel
theorem ok_M24 : (List.range 8).all (fun i => okM (8 * 24 + i)) = true := by decide +kernel
theorem ok_M25 : (List.range 8).all (fun i => okM (8 * 25 + i)) = true := by decide +kernel
theorem ok_M26 : (List.range 8).all (fun i => okM (8 * 26 + i)) = true := by decide +kernel
theorem ok_M27 : (List.range 8).all (fun i => okM (8 * 27 + i)) = true := by decide +kernel
theorem ok_M28 : (List.range 7).all (fun i => okM (8 * 28 + i)) = true := by decide +kernel
theorem hM : ∀ y, y < 231 → okM y = true := fun y hy => by
  have hy2 : 8 * (y / 8) + y % 8 = y := Nat.div_add_mod y 8
  have hr : y % 8 ∈ List.range 8 := List.mem_range.mpr (Nat.mod_lt y (by decide))
  have hq : y / 8 < 29 := by omega
  have hz : 8 * (y / 8) + y % 8 < 231 := by omega
  rw [← hy2]
  generalize y % 8 = r at hr hz
  rcases (show y / 8 = 0 ∨ y / 8 = 1 ∨ y / 8 = 2 ∨ y / 8 = 3 ∨ y / 8 = 4 ∨ y / 8 = 5 ∨ y / 8 = 6 ∨ y / 8 = 7 ∨ y / 8 = 8 ∨ y / 8 = 9 ∨ y / 8 = 10 ∨ y / 8 = 11 ∨ y / 8 = 12 ∨ y / 8 = 13 ∨ y / 8 = 14 ∨ y / 8 = 15 ∨ y / 8 = 16 ∨ y / 8 = 17 ∨ y / 8 = 18 ∨ y / 8 = 19 ∨ y / 8 = 20 ∨ y / 8 = 21 ∨ y / 8 = 22 ∨ y / 8 = 23 ∨ y / 8 = 24 ∨ y / 8 = 25 ∨ y / 8 = 26 ∨ y / 8 = 27 ∨ y / 8 = 28 by omega) with e | e | e | e | e | e | e | e | e | e | e | e | e | e | e | e | e | e | e | e | e | e | e | e | e | e | e | e | e <;> rw [e]
  · exact List.all_eq_true.mp ok_M0 r hr
  · exact List.all_eq_true.mp ok_M1 r hr
  · exact List.all_eq_true.mp ok_M2 r hr
  · exact List.all_eq_true.mp ok_M3 r hr
  · exact List.all_eq_true.mp ok_M4 r hr
  · exact List.all_eq_true.mp ok_M5 r hr
  · exact List.all_eq_true.mp ok_M6 r hr
  · exact List.all_eq_true.mp ok_M7 r hr
  · exact List.all_eq_true.mp ok_M8 r hr
  · exact List.all_eq_true.mp ok_M9 r hr
  · exact List.all_eq_true.mp ok_M10 r hr
  · exact List.all_eq_true.mp ok_M11 r hr
  · exact List.all_eq_true.mp ok_M12 r hr
  · exact List.all_eq_true.mp ok_M13 r hr
  · exact List.all_eq_true.mp ok_M14 r hr
  · exact List.all_eq_true.mp ok_M15 r hr
  · exact List.all_eq_true.mp ok_M16 r hr
  · exact List.all_eq_true.mp ok_M17 r hr
  · exact List.all_eq_true.mp ok_M18 r hr
  · exact List.all_eq_true.mp ok_M19 r hr
  · exact List.all_eq_true.mp ok_M20 r hr
  · exact List.all_eq_true.mp ok_M21 r hr
  · exact List.all_eq_true.mp ok_M22 r hr
  · exact List.all_eq_true.mp ok_M23 r hr
  · exact List.all_eq_true.mp ok_M24 r hr
  · exact List.all_eq_true.mp ok_M25 r hr
  · exact List.all_eq_true.mp ok_M26 r hr
  · exact List.all_eq_true.mp ok_M27 r hr
  · exact List.all_eq_true.mp ok_M28 r (List.mem_range.mpr (by omega))
