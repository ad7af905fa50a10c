/-! the law's own table, by pieces -/
theorem ok_L0 : ((T_L_law.drop 0).take 60).all (okE 231) = true := by decide +kernel
theorem ok_L1 : ((T_L_law.drop 60).take 60).all (okE 231) = true := by decide +kernel
theorem ok_L2 : ((T_L_law.drop 120).take 60).all (okE 231) = true := by decide +kernel
theorem ok_L3 : ((T_L_law.drop 180).take 60).all (okE 231) = true := by decide +kernel
theorem ok_L4 : ((T_L_law.drop 240).take 60).all (okE 231) = true := by decide +kernel
theorem ok_L5 : ((T_L_law.drop 300).take 60).all (okE 231) = true := by decide +kernel
theorem ok_L6 : ((T_L_law.drop 360).take 60).all (okE 231) = true := by decide +kernel
theorem ok_L7 : ((T_L_law.drop 420).take 60).all (okE 231) = true := by decide +kernel
theorem ok_L8 : ((T_L_law.drop 480).take 60).all (okE 231) = true := by decide +kernel
theorem ok_L9 : ((T_L_law.drop 540).take 60).all (okE 231) = true := by decide +kernel
theorem ok_L10 : ((T_L_law.drop 600).take 60).all (okE 231) = true := by decide +kernel
theorem ok_L11 : ((T_L_law.drop 660).take 60).all (okE 231) = true := by decide +kernel
theorem ok_L12 : ((T_L_law.drop 720).take 60).all (okE 231) = true := by decide +kernel
theorem ok_L13 : ((T_L_law.drop 780).take 60).all (okE 231) = true := by decide +kernel
theorem ok_L14 : ((T_L_law.drop 840).take 60).all (okE 231) = true := by decide +kernel
theorem ok_L_end : T_L_law.drop 900 = [] := by decide +kernel
theorem dt60 {α : Type} {q : α} {l : List α} (n : Nat) (h : q ∈ l.drop n) : q ∈ (l.drop n).take 60 ∨ q ∈ l.drop (n + 60) := by
  rw [← List.take_append_drop 60 (l.drop n), List.mem_append, List.drop_drop] at h
  exact h
theorem ok_L_law : (T_L_law).all (okE 231) = true := by
  refine List.all_eq_true.mpr fun q h0 => ?_
  have h0 : q ∈ T_L_law.drop 0 := h0
  rcases dt60 0 h0 with z | h1
  · exact List.all_eq_true.mp ok_L0 q z
  rcases dt60 60 h1 with z | h2
  · exact List.all_eq_true.mp ok_L1 q z
  rcases dt60 120 h2 with z | h3
  · exact List.all_eq_true.mp ok_L2 q z
  rcases dt60 180 h3 with z | h4
  · exact List.all_eq_true.mp ok_L3 q z
  rcases dt60 240 h4 with z | h5
  · exact List.all_eq_true.mp ok_L4 q z
  rcases dt60 300 h5 with z | h6
  · exact List.all_eq_true.mp ok_L5 q z
  rcases dt60 360 h6 with z | h7
  · exact List.all_eq_true.mp ok_L6 q z
  rcases dt60 420 h7 with z | h8
  · exact List.all_eq_true.mp ok_L7 q z
  rcases dt60 480 h8 with z | h9
  · exact List.all_eq_true.mp ok_L8 q z
  rcases dt60 540 h9 with z | h10
  · exact List.all_eq_true.mp ok_L9 q z
  rcases dt60 600 h10 with z | h11
  · exact List.all_eq_true.mp ok_L10 q z
  rcases dt60 660 h11 with z | h12
  · exact List.all_eq_true.mp ok_L11 q z
  rcases dt60 720 h12 with z | h13
  · exact List.all_eq_true.mp ok_L12 q z
  rcases dt60 780 h13 with z | h14
  · exact List.all_eq_true.mp ok_L13 q z
  rcases dt60 840 h14 with z | h15
  · exact List.all_eq_true.mp ok_L14 q z
  rw [ok_L_end] at h15; cases h15
