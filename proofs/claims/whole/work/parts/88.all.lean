/-! EVERY INSTRUCTION, EVERY METHOD -/
section SIM
variable {p : Program} {l : Launch} {e : Env} {Rm : Room} {s : State} {m : MethodId} {args : Array Value} {below : List Frame} {meth : Method} {c : Code} {Qf : State → Prop} {D : va_G} {cA : Nat → ClassId} {ev : Ev} {base : Nat} {LG : List Nat} {ad0 : Nat → Nat} {N0 c0 s0 mc ms : Nat} {L : Int} {xs : Int → Int} {mi pc len cp wi a b : Nat} {y z : Int} {w : List (Int × Nat)} {ls st : List Vv} {F A R : Fn2} {Y : Yy}
theorem nocall {a : Nat} (h : inOf a = true → rtOf a = none) (hrt : ¬ rtOf a = none) (hi : inOf a = true) : False := hrt (h hi)
set_option maxHeartbeats 4000000 in
theorem sim_op (hMN : MNA) (hF : FXz p s m args meth c D cA ev base L xs mi) {k : Nat} {E : Ee} {Qq : Qq} (hRk : k + 1 ≤ Rm.frames ∧ 60 * (k + 1) ≤ Rm.locals ∧ mc ≤ Rm.cells ∧ ms ≤ Rm.slots) (hE : EMet l D cA ev base L xs k E) (hall : ∀ y, y < 231 → okM y = true) (hnv : ∀ y, y < 231 → inOf y = true → rtOf y = none) {cc : Nat} (hok : okOp mi pc len cp wi (cc, a, b, y, z, w) = true) (hlg : LG = LGo mi) (hR : 72 ≤ cc ∧ cc ≤ 75 → SK p l e Rm s m args below meth c Qf D cA ev base LG ad0 N0 c0 s0 mc ms pc ls st F A R Y) (hh : sem E Qq c0 s0 mc ms L xs (SK p l e Rm s m args below meth c Qf D cA ev base LG ad0 N0 c0 s0 mc ms (pc + len)) (SK p l e Rm s m args below meth c Qf D cA ev base LG ad0 N0 c0 s0 mc ms) (cc, a, b, y, z, w) ls st F A R Y) : SK p l e Rm s m args below meth c Qf D cA ev base LG ad0 N0 c0 s0 mc ms pc ls st F A R Y := by
  have hRm : 1 ≤ Rm.frames ∧ 60 ≤ Rm.locals ∧ mc ≤ Rm.cells ∧ ms ≤ Rm.slots := ⟨by omega, by omega, hRk.2.2.1, hRk.2.2.2⟩
  unfold sem at hh
  dsimp only at hh
  split at hh
  · simp only [okOp] at hok
    rw [Bool.and_eq_true, decide_eq_true_eq] at hok
    obtain ⟨hz, hok⟩ := hok
    refine sim_0 hF (cp := cp) hz ?_ hh
    split at hok <;> simp only [Bool.and_eq_true, decide_eq_true_eq] at hok
    · exact Or.inl ⟨dk hok.1, hok.2⟩
    · exact Or.inr (Or.inl ⟨dk hok.1, hok.2.1, hok.2.2⟩)
    · exact Or.inr (Or.inr (Or.inl ⟨dk hok.1, hok.2.1, hok.2.2⟩))
    · exact Or.inr (Or.inr (Or.inr (Or.inl ⟨dk hok.1, hok.2.1, wG (wd hok.2.2) rfl⟩)))
    · exact Or.inr (Or.inr (Or.inr (Or.inr ⟨dk hok.1, hok.2.1, wG (wd hok.2.2) rfl⟩)))
  · simp only [okOp] at hok
    rw [Bool.and_eq_true, decide_eq_true_eq] at hok
    obtain ⟨hz, hok⟩ := hok
    refine sim_1 hF (cp := cp) hz ?_ hh
    split at hok <;> simp only [Bool.and_eq_true, decide_eq_true_eq] at hok
    · exact Or.inl ⟨dk hok.1, hok.2.1, hok.2.2.1, hok.2.2.2⟩
    · exact Or.inr ⟨dk hok.1, hok.2.1, wG (wd hok.2.2) rfl⟩
  · split at hh
    · rename_i t v hv
      obtain ⟨hkd, hh2⟩ := cond_e hh
      clear hh
      have hkd := Nat.eq_of_beq_eq_true hkd
      simp only [okOp] at hok
      have key : (b = 0 ∧ ((decode (byOf mi) pc = .ok (.iload_n (Fin.ofNat 4 a), 1) ∧ len = 1 ∧ a < 4) ∨ (decode (byOf mi) pc = .ok (.iload a, 2) ∧ len = 2))) ∨ (b = 1 ∧ ((decode (byOf mi) pc = .ok (.lload_n (Fin.ofNat 4 a), 1) ∧ len = 1 ∧ a < 4) ∨ (decode (byOf mi) pc = .ok (.lload a, 2) ∧ len = 2))) ∨ (b = 2 ∧ ((decode (byOf mi) pc = .ok (.aload_n (Fin.ofNat 4 a), 1) ∧ len = 1 ∧ a < 4) ∨ (decode (byOf mi) pc = .ok (.aload a, 2) ∧ len = 2))) := by
        split at hok
        · rw [Bool.and_eq_true, Bool.and_eq_true, decide_eq_true_eq, decide_eq_true_eq] at hok
          obtain ⟨e1, e2, hok⟩ := hok
          split at hok
          · exact Or.inl ⟨rfl, Or.inl ⟨dk hok, e1, e2⟩⟩
          · exact Or.inr (Or.inl ⟨rfl, Or.inl ⟨dk hok, e1, e2⟩⟩)
          · exact Or.inr (Or.inr ⟨rfl, Or.inl ⟨dk hok, e1, e2⟩⟩)
          · cases hok
        · rw [Bool.and_eq_true, decide_eq_true_eq] at hok
          obtain ⟨e1, hok⟩ := hok
          split at hok
          · exact Or.inl ⟨rfl, Or.inr ⟨dk hok, e1⟩⟩
          · exact Or.inr (Or.inl ⟨rfl, Or.inr ⟨dk hok, e1⟩⟩)
          · exact Or.inr (Or.inr ⟨rfl, Or.inr ⟨dk hok, e1⟩⟩)
          · cases hok
      rcases key with ⟨rfl, hd⟩ | ⟨rfl, hd⟩ | ⟨rfl, hd⟩
      · have ht : t = 0 := by unfold kd at hkd; split at hkd <;> first | rfl | cases hkd
        subst ht
        exact sim_2i hF hv hd hh2
      · have ht : t = 1 := by unfold kd at hkd; split at hkd <;> first | rfl | cases hkd
        subst ht
        exact sim_2l hF hv hd hh2
      · exact sim_2a hF hv hkd hd hh2
    · exact hh.elim
  · simp only [okOp] at hok
    rw [Bool.and_eq_true, decide_eq_true_eq] at hok
    obtain ⟨hna, hok⟩ := hok
    rw [← hlg] at hna
    have key : (b = 0 ∧ ((decode (byOf mi) pc = .ok (.istore_n (Fin.ofNat 4 a), 1) ∧ len = 1 ∧ a < 4) ∨ (decode (byOf mi) pc = .ok (.istore a, 2) ∧ len = 2))) ∨ (b = 2 ∧ ((decode (byOf mi) pc = .ok (.astore_n (Fin.ofNat 4 a), 1) ∧ len = 1 ∧ a < 4) ∨ (decode (byOf mi) pc = .ok (.astore a, 2) ∧ len = 2))) := by
      split at hok
      · rw [Bool.and_eq_true, Bool.and_eq_true, decide_eq_true_eq, decide_eq_true_eq] at hok
        obtain ⟨e1, e2, hok⟩ := hok
        split at hok
        · exact Or.inl ⟨rfl, Or.inl ⟨dk hok, e1, e2⟩⟩
        · exact Or.inr ⟨rfl, Or.inl ⟨dk hok, e1, e2⟩⟩
        · cases hok
      · rw [Bool.and_eq_true, decide_eq_true_eq] at hok
        obtain ⟨e1, hok⟩ := hok
        split at hok
        · exact Or.inl ⟨rfl, Or.inr ⟨dk hok, e1⟩⟩
        · exact Or.inr ⟨rfl, Or.inr ⟨dk hok, e1⟩⟩
        · cases hok
    rcases key with ⟨rfl, hd⟩ | ⟨rfl, hd⟩
    · exact sim_3i hF hna hd hh
    · exact sim_3a hF hna hd hh
  · split at hh
    · rename_i v hv
      simp only [okOp, Bool.and_eq_true, decide_eq_true_eq] at hok
      obtain ⟨hna, hd, rfl⟩ := hok
      rw [← hlg] at hna
      exact sim_5 hF hv hna hd hh
    · exact hh.elim
  · simp only [okOp, Bool.and_eq_true, decide_eq_true_eq] at hok
    obtain ⟨hd, rfl⟩ := hok
    exact sim_6 hF hd hh
  · simp only [okOp, Bool.and_eq_true, decide_eq_true_eq] at hok
    obtain ⟨hd, rfl⟩ := hok
    exact sim_7 hF hd hh
  · simp only [okOp, Bool.and_eq_true, decide_eq_true_eq] at hok
    obtain ⟨hd, rfl⟩ := hok
    exact sim_8 hF hd hh
  · simp only [okOp, Bool.and_eq_true, decide_eq_true_eq] at hok
    obtain ⟨hd, rfl⟩ := hok
    exact sim_9 hF hd hh
  · simp only [okOp, Bool.and_eq_true, decide_eq_true_eq] at hok
    obtain ⟨hd, rfl⟩ := hok
    exact sim_10 hF hd hh
  · simp only [okOp, Bool.and_eq_true, decide_eq_true_eq] at hok
    obtain ⟨hd, rfl⟩ := hok
    exact sim_11 hF hd hh
  · simp only [okOp, Bool.and_eq_true, decide_eq_true_eq] at hok
    obtain ⟨hd, rfl⟩ := hok
    exact sim_12 hF hd hh
  · simp only [okOp, Bool.and_eq_true, decide_eq_true_eq] at hok
    obtain ⟨hd, rfl⟩ := hok
    exact sim_13 hF hd hh
  · simp only [okOp, Bool.and_eq_true, decide_eq_true_eq] at hok
    obtain ⟨hd, rfl⟩ := hok
    exact sim_14 hF hd hh
  · simp only [okOp, Bool.and_eq_true, decide_eq_true_eq] at hok
    obtain ⟨hd, rfl⟩ := hok
    exact sim_15 hF hd hh
  · simp only [okOp, Bool.and_eq_true, decide_eq_true_eq] at hok
    obtain ⟨hd, rfl⟩ := hok
    exact sim_16 hF hd hh
  · simp only [okOp, Bool.and_eq_true, decide_eq_true_eq] at hok
    obtain ⟨hd, rfl⟩ := hok
    exact sim_17 hF hd hh
  · simp only [okOp, Bool.and_eq_true, decide_eq_true_eq] at hok
    obtain ⟨hd, rfl⟩ := hok
    exact sim_18 hF hd hh
  · simp only [okOp, Bool.and_eq_true, decide_eq_true_eq] at hok
    obtain ⟨hd, rfl⟩ := hok
    exact sim_19 hF hd hh
  · simp only [okOp, Bool.and_eq_true, decide_eq_true_eq] at hok
    obtain ⟨hd, rfl⟩ := hok
    exact sim_20 hF hd hh
  · simp only [okOp, Bool.and_eq_true, decide_eq_true_eq] at hok
    obtain ⟨hd, rfl⟩ := hok
    exact sim_21 hF hd hh
  · simp only [okOp, Bool.and_eq_true, decide_eq_true_eq] at hok
    obtain ⟨hd, rfl⟩ := hok
    exact sim_22 hF hd hh
  · simp only [okOp, Bool.and_eq_true, decide_eq_true_eq] at hok
    obtain ⟨hd, rfl⟩ := hok
    exact sim_23 hF hd hh
  · simp only [okOp, Bool.and_eq_true, decide_eq_true_eq] at hok
    obtain ⟨hd, rfl⟩ := hok
    exact sim_24 hF hd hh
  · simp only [okOp, Bool.and_eq_true, decide_eq_true_eq] at hok
    obtain ⟨hd, rfl⟩ := hok
    exact sim_25 hF hd hh
  · simp only [okOp, Bool.and_eq_true, decide_eq_true_eq] at hok
    obtain ⟨hd, rfl⟩ := hok
    exact sim_26 hF hd hh
  · simp only [okOp, Bool.and_eq_true, decide_eq_true_eq] at hok
    obtain ⟨hd, rfl⟩ := hok
    exact sim_27 hF hd hh
  · simp only [okOp, Bool.and_eq_true, decide_eq_true_eq] at hok
    obtain ⟨hd, rfl⟩ := hok
    exact sim_28 hF hd hh
  · simp only [okOp, Bool.and_eq_true, decide_eq_true_eq] at hok
    obtain ⟨hd, rfl⟩ := hok
    exact sim_29 hF hd hh
  · simp only [okOp, Bool.and_eq_true, decide_eq_true_eq] at hok
    obtain ⟨hd, rfl⟩ := hok
    exact sim_30 hF hd hh
  · simp only [okOp, Bool.and_eq_true, decide_eq_true_eq] at hok
    obtain ⟨hd, rfl⟩ := hok
    exact sim_31 hF hd hh
  · simp only [okOp, Bool.and_eq_true, decide_eq_true_eq] at hok
    obtain ⟨hd, rfl⟩ := hok
    exact sim_32 hF hd hh
  · simp only [okOp, Bool.and_eq_true, decide_eq_true_eq] at hok
    obtain ⟨hd, rfl⟩ := hok
    exact sim_33 hF hd hh
  · simp only [okOp, Bool.and_eq_true, decide_eq_true_eq] at hok
    obtain ⟨hd, rfl⟩ := hok
    exact sim_34 hF hd hh
  · simp only [okOp, Bool.and_eq_true, decide_eq_true_eq] at hok
    obtain ⟨hd, rfl⟩ := hok
    exact sim_35 hF hd hh
  · simp only [okOp, Bool.and_eq_true, decide_eq_true_eq] at hok
    obtain ⟨hd, rfl⟩ := hok
    exact sim_36 hF hd hh
  · simp only [okOp, Bool.and_eq_true, decide_eq_true_eq] at hok
    obtain ⟨hd, rfl⟩ := hok
    exact sim_37 hF hd hh
  · simp only [okOp, Bool.and_eq_true, decide_eq_true_eq] at hok
    obtain ⟨hd, rfl⟩ := hok
    exact sim_38 hF hd hh
  · simp only [okOp, Bool.and_eq_true, decide_eq_true_eq] at hok
    obtain ⟨hd, rfl⟩ := hok
    exact sim_39 hF hd hh
  · simp only [okOp, Bool.and_eq_true, decide_eq_true_eq] at hok
    obtain ⟨hd, rfl, hr⟩ := hok
    exact sim_40 hF hd hr hh
  · simp only [okOp, Bool.and_eq_true, decide_eq_true_eq] at hok
    obtain ⟨hd, rfl⟩ := hok
    exact sim_41 hF hd hh
  · simp only [okOp, Bool.and_eq_true, decide_eq_true_eq] at hok
    obtain ⟨hd, rfl, hr, hi, hc⟩ := hok
    exact sim_44 hF hd hr hi hc hh
  · simp only [okOp, Bool.and_eq_true, decide_eq_true_eq] at hok
    obtain ⟨hd, rfl, ha⟩ := hok
    exact sim_46 hF ha hd hh
  · simp only [okOp] at hok
    rw [Bool.and_eq_true, decide_eq_true_eq] at hok
    obtain ⟨rfl, hok⟩ := hok
    split at hok
    · exact sim_47i hF hok hh
    · exact sim_47b hF hok hh
    · exact sim_47z hF hok hh
    · cases hok
  · simp only [okOp, Bool.and_eq_true, decide_eq_true_eq] at hok
    obtain ⟨hd, rfl⟩ := hok
    exact sim_50 hF hd hh
  · simp only [okOp, Bool.and_eq_true, decide_eq_true_eq] at hok
    obtain ⟨hd, rfl, ha⟩ := hok
    rcases ha with rfl | rfl
    · exact sim_51q hF hd hh
    · exact sim_51a hF hd hh
  · simp only [okOp, Bool.and_eq_true, decide_eq_true_eq] at hok
    obtain ⟨hd, rfl⟩ := hok
    exact sim_53 hF hd hh
  · simp only [okOp, Bool.and_eq_true, decide_eq_true_eq] at hok
    obtain ⟨hd, rfl⟩ := hok
    exact sim_54 hF hd hh
  · simp only [okOp, Bool.and_eq_true, decide_eq_true_eq] at hok
    obtain ⟨hd, rfl⟩ := hok
    exact sim_55 hF hd hh
  · simp only [okOp, Bool.and_eq_true, decide_eq_true_eq] at hok
    obtain ⟨hd, rfl⟩ := hok
    exact sim_56 hF hd hh
  · simp only [okOp, Bool.and_eq_true, decide_eq_true_eq] at hok
    obtain ⟨hd, rfl⟩ := hok
    exact sim_57 hF hd hh
  · simp only [okOp, Bool.and_eq_true, decide_eq_true_eq] at hok
    obtain ⟨hd, rfl, ha, hw⟩ := hok
    exact sim_58 hF hRm hd ha (wG (wd hw) rfl) hh
  · simp only [okOp] at hok
    rw [Bool.and_eq_true, decide_eq_true_eq] at hok
    obtain ⟨rfl, hok⟩ := hok
    split at hok
    · exact sim_59_0 hF hRm hok hh
    · exact sim_59_1 hF hRm hok hh
    · exact sim_59_2 hF hRm hok hh
    · exact sim_59_3 hF hRm hok hh
    · cases hok
  · simp only [okOp, Bool.and_eq_true, decide_eq_true_eq] at hok
    obtain ⟨hd, rfl, hw⟩ := hok
    exact sim_60 hF hRm hd (wG (wd hw) rfl) hh
  · simp only [okOp, Bool.and_eq_true, decide_eq_true_eq] at hok
    obtain ⟨hd, rfl, hw⟩ := hok
    exact sim_61 hMN hF hRm hd (wG (wd hw) rfl) hh
  · simp only [okOp] at hok
    exact sim_62 hF hok hh
  · simp only [okOp, Bool.and_eq_true, decide_eq_true_eq] at hok
    obtain ⟨hd, rfl, ha⟩ := hok
    exact sim_63 hF ha hd hh
  · simp only [okOp, Bool.and_eq_true, decide_eq_true_eq] at hok
    obtain ⟨hd, rfl, ha⟩ := hok
    exact sim_64 hF ha hd hh
  · simp only [okOp] at hok
    exact sim_65 hF hok hh
  · simp only [okOp, Bool.and_eq_true, decide_eq_true_eq] at hok
    obtain ⟨hc, rfl, hrt, hmc, hms⟩ := hok
    obtain ⟨hwk, hrc, hE1⟩ := cond_e hh
    rw [Bool.and_eq_true] at hwk
    simp only [Bool.not_eq_true', decide_eq_false_iff_not] at hrt
    have ha := (okCall_s hc).1
    refine fun hw hl hs hlg2 hn h1 h2 h3 h4 h5 => sim_call hF hRk hE hc (hall a ha) (fun q => ?_) (Nat.le_of_ble_eq_true hwk.1) (Nat.le_of_ble_eq_true hwk.2) hrc (by omega) hE1 (fun v F A R Y' hN h9 => ?_) hw hl hs hlg2 hn h1 h2 h3 h4 h5
    · rcases (okCall_s hc).2.2.2 with z | z | z | z | z
      · omega
      · omega
      · omega
      · exact absurd (hall a ha) (fun _ => nocall (hnv a ha) hrt z.2.2.2.2.2)
      · exact absurd (hall a ha) (fun _ => nocall (hnv a ha) hrt z.2.2.2.2.2)
    · rw [if_neg (fun z => hrt (h9.mp z))]; exact hN
  · simp only [okOp, Bool.and_eq_true, decide_eq_true_eq] at hok
    obtain ⟨hc, rfl, hrt, hmc, hms⟩ := hok
    obtain ⟨hwk, hrc, hE1⟩ := cond_e hh
    rw [Bool.and_eq_true] at hwk
    have ha := (okCall_s hc).1
    refine fun hw hl hs hlg2 hn h1 h2 h3 h4 h5 => sim_call hF hRk hE hc (hall a ha) (fun _ => hrt) (Nat.le_of_ble_eq_true hwk.1) (Nat.le_of_ble_eq_true hwk.2) hrc (by omega) hE1 (fun v F A R Y' hN h9 => ?_) hw hl hs hlg2 hn h1 h2 h3 h4 h5
    rw [if_pos (h9.mpr hrt)]; exact hN
  · simp only [okOp, Bool.and_eq_true, decide_eq_true_eq] at hok
    obtain ⟨hd, rfl, hw⟩ := hok
    exact sim_68 hF hRm hd (wG (wd hw) rfl) hh
  · simp only [okOp, Bool.and_eq_true, decide_eq_true_eq] at hok
    obtain ⟨hd, rfl, hw⟩ := hok
    exact sim_69 hF hRm hd (wG (wd hw) rfl) hh
  · simp only [okOp, Bool.and_eq_true, decide_eq_true_eq] at hok
    obtain ⟨hd, rfl, hw⟩ := hok
    exact sim_70 hF hRm hd (wG (wd hw) rfl) hh
  · simp only [okOp, Bool.and_eq_true, decide_eq_true_eq] at hok
    obtain ⟨hd, rfl, hw⟩ := hok
    exact sim_71 hF hRm hd (wG (wd hw) rfl) hh
  · exact hR ⟨by decide, by decide⟩
  · exact hR ⟨by decide, by decide⟩
  · exact hR ⟨by decide, by decide⟩
  · exact hR ⟨by decide, by decide⟩
  · simp only [okOp, Bool.and_eq_true, decide_eq_true_eq] at hok
    obtain ⟨hd, rfl, hcl, hz⟩ := hok
    refine sim_76 hF hd ?_ hh
    rcases hz with ⟨z1, z2⟩ | ⟨z1, z2⟩
    · exact Or.inl ⟨z1, hcl, z2⟩
    · exact Or.inr ⟨z1, hcl, z2⟩
  · simp only [okOp, Bool.and_eq_true, decide_eq_true_eq] at hok
    obtain ⟨hd, rfl, hw⟩ := hok
    exact sim_77 hF hd (wG (wd hw) rfl) hh
  · simp only [okOp, Bool.and_eq_true, decide_eq_true_eq] at hok
    obtain ⟨hd, rfl, hw⟩ := hok
    exact sim_78 hF hd (wG (wd hw) rfl) hh
  · simp only [okOp, Bool.and_eq_true, decide_eq_true_eq] at hok
    obtain ⟨hd, rfl, hz, hw⟩ := hok
    exact sim_79 hF hd hz (wG (wd hw) rfl) hh
  · simp only [okOp, Bool.and_eq_true, decide_eq_true_eq] at hok
    obtain ⟨hd, rfl, hw⟩ := hok
    exact sim_83 hF hd (wG (wd hw) rfl) hh
  · simp only [okOp, Bool.and_eq_true, decide_eq_true_eq] at hok
    obtain ⟨hd, rfl⟩ := hok
    exact sim_84 hF hd hh
  · simp only [okOp, Bool.and_eq_true, decide_eq_true_eq] at hok
    obtain ⟨hd, rfl⟩ := hok
    exact sim_85 hF hd hh
  · simp only [okOp, Bool.and_eq_true, decide_eq_true_eq] at hok
    obtain ⟨hd, rfl⟩ := hok
    exact sim_80 hF hd hh
  · simp only [okOp, Bool.and_eq_true, decide_eq_true_eq] at hok
    obtain ⟨hd, rfl⟩ := hok
    exact sim_81 hF hd hh
  · simp only [okOp, Bool.and_eq_true, decide_eq_true_eq] at hok
    obtain ⟨hd, rfl, hw⟩ := hok
    exact sim_82 hF hRm hd (wG (wd hw) rfl) hh
  · simp only [okOp, Bool.and_eq_true, decide_eq_true_eq] at hok
    obtain ⟨hd, rfl⟩ := hok
    exact sim_87 hF hd hh
  · simp only [okOp, Bool.and_eq_true, decide_eq_true_eq] at hok
    obtain ⟨hd, rfl⟩ := hok
    exact sim_88 hF hd hh
  · simp only [okOp, Bool.and_eq_true, decide_eq_true_eq] at hok
    obtain ⟨hd, rfl⟩ := hok
    exact sim_89 hF hd hh
  · simp only [okOp, Bool.and_eq_true, decide_eq_true_eq] at hok
    obtain ⟨hc, rfl, hrt, hmc, hms⟩ := hok
    obtain ⟨hwk, hrc, hb1, hb2, hE1⟩ := cond_e hh
    rw [Bool.and_eq_true] at hwk
    have ha := (okCall_s hc).1
    refine sim_call hF hRk hE hc (hall a ha) (fun _ => hrt) (Nat.le_of_ble_eq_true hwk.1) (Nat.le_of_ble_eq_true hwk.2) hrc (by omega) hE1 (fun v F A R Y' hN h9 => ?_)
    rw [if_pos (h9.mpr hrt)]; exact hN
  · simp only [okOp, Bool.and_eq_true, decide_eq_true_eq] at hok
    obtain ⟨hc, rfl, hrt, hmc, hms⟩ := hok
    obtain ⟨hwk, hrc, hb1, hb2, hE1⟩ := cond_e hh
    rw [Bool.and_eq_true] at hwk
    have ha := (okCall_s hc).1
    refine sim_call hF hRk hE hc (hall a ha) (fun _ => hrt) (Nat.le_of_ble_eq_true hwk.1) (Nat.le_of_ble_eq_true hwk.2) hrc (by omega) hE1 (fun v F A R Y' hN h9 => ?_)
    rw [if_pos (h9.mpr hrt)]; exact hN
  · exact hh.elim
end SIM
