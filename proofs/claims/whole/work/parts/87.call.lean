/-! RETURNS, CALLS, EVERY METHOD -/
def rvl (ev : Ev) (ad : Nat → Nat) (v : Vv) : Option Value := if v.1 = 9 then none else some (cz ev ad v)
/-- a method's end: the answer and the world, as the machine over whole numbers has them -/
def QC (D : va_G) (cA : Nat → ClassId) (ev : Ev) (base N0 c0 s0 : Nat) (ad0 : Nat → Nat) (mi : Nat) (Qq : Qq) : Array Value → State → Outcome → State → Prop := fun _ st o t =>
  (∃ (v : Vv) (F A R : Fn2) (Y : Yy) (ad : Nat → Nat), Qq v F A R Y ∧ o = .returned (rvl ev ad v) ∧ wfS F A R Y ∧ wfV Y.2.2.1 v ∧ N0 ≤ Y.2.2.1 ∧ (∀ i, i < N0 → ad i = ad0 i) ∧ va_P D vwCl (wld cA ad F A R Y) t.heap ∧ va_D (fun q => base ≤ q) (wld cA ad F A R Y) ∧ (v.1 = 9 ↔ rtOf mi = none) ∧ Y.2.2.2.1 = c0 + MCo mi ∧ Y.2.2.2.2 = s0 + MSo mi) ∧ va_F (fun q => base ≤ q) st t
theorem wfS_sp {F A R : Fn2} {Y : Yy} {x y : Nat} (h : wfS F A R Y) : wfS F A R (Y.1, Y.2.1, Y.2.2.1, x, y) := h
section SIM
variable {p : Program} {l : Launch} {e : Env} {Rm : Room} {s : State} {m : MethodId} {args : Array Value} {below : List Frame} {meth : Method} {c : Code} {Qq : Qq} {D : va_G} {cA : Nat → ClassId} {ev : Ev} {base : Nat} {LG : List Nat} {ad0 : Nat → Nat} {N0 c0 s0 mc ms : Nat} {L : Int} {xs : Int → Int} {mi pc len cp wi a b : Nat} {y z : Int} {w : List (Int × Nat)} {ls st : List Vv} {F A R : Fn2} {Y : Yy}
theorem sim_72 (hF : FX p s m args meth c D cA ev base L xs mi) (hmc : mc = MCo mi ∧ ms = MSo mi) (hlo : meth.locks = false) (hrt : meth.sig.returnType = rtOf mi) (hd : dkI mi pc .ireturn 1 = true) (hre : rtOf mi = some .int) (hh : match st with
      | [(0, v)] => Y.2.2.2.1 ≤ c0 + mc ∧ Y.2.2.2.2 ≤ s0 + ms ∧ Qq (0, v) F A R (Y.1, Y.2.1, Y.2.2.1, c0 + mc, s0 + ms)
      | _ => False) : SK p l e Rm s m args below meth c (MQ below (QC D cA ev base N0 c0 s0 ad0 mi Qq) args s mc ms (fun q => base ≤ q)) D cA ev base LG ad0 N0 c0 s0 mc ms pc ls st F A R Y := by
  intro hw hl hs hlg hn h1 h2 h3 h4 h5 ad H locs lsC hA hP hD hS hLV
  obtain ⟨hx, hb, hml, hown, hts, hK, hbs, hin, hFG⟩ := hF
  split at hh
  · rename_i v
    obtain ⟨g0, g1, h⟩ := hh
    obtain ⟨rfl, rfl⟩ := hmc
    refine W.widen (k := MCo mi) (n := MSo mi) (by omega) (by omega) ?_
    exact W.iret (v := Int32.ofInt v) hx hb (by rw [hrt, hre]) (fun t ht hW => ⟨⟨(0, v), F, A, R, (Y.1, Y.2.1, Y.2.2.1, c0 + MCo mi, s0 + MSo mi), ad, h, rfl, wfS_sp hw, (wfL_c.mp hs).1, h5, hA, by rw [ht]; exact hP, hD, ⟨fun z => absurd z (by show ¬ (0 : Nat) = 9; decide), fun z => by rw [hre] at z; cases z⟩, rfl, rfl⟩, hS.F ht⟩) hS.2.2 (dk hd) hlo
  · exact hh.elim

theorem sim_74 (hF : FX p s m args meth c D cA ev base L xs mi) (hmc : mc = MCo mi ∧ ms = MSo mi) (hlo : meth.locks = false) (hrt : meth.sig.returnType = rtOf mi) (hd : dkI mi pc .return_ 1 = true) (hre : rtOf mi = none) (hh : match st with
      | [] => Y.2.2.2.1 ≤ c0 + mc ∧ Y.2.2.2.2 ≤ s0 + ms ∧ Qq (9, 0) F A R (Y.1, Y.2.1, Y.2.2.1, c0 + mc, s0 + ms)
      | _ => False) : SK p l e Rm s m args below meth c (MQ below (QC D cA ev base N0 c0 s0 ad0 mi Qq) args s mc ms (fun q => base ≤ q)) D cA ev base LG ad0 N0 c0 s0 mc ms pc ls st F A R Y := by
  intro hw hl hs hlg hn h1 h2 h3 h4 h5 ad H locs lsC hA hP hD hS hLV
  obtain ⟨hx, hb, hml, hown, hts, hK, hbs, hin, hFG⟩ := hF
  split at hh
  · obtain ⟨g0, g1, h⟩ := hh
    obtain ⟨rfl, rfl⟩ := hmc
    refine W.widen (k := MCo mi) (n := MSo mi) (by omega) (by omega) ?_
    exact W.vret hx hb (by rw [hrt, hre]) (fun t ht hW => ⟨⟨(9, 0), F, A, R, (Y.1, Y.2.1, Y.2.2.1, c0 + MCo mi, s0 + MSo mi), ad, h, rfl, wfS_sp hw, trivial, h5, hA, by rw [ht]; exact hP, hD, ⟨fun _ => hre, fun _ => rfl⟩, rfl, rfl⟩, hS.F ht⟩) hS.2.2 (dk hd) hlo
  · exact hh.elim

theorem sim_75 (hF : FX p s m args meth c D cA ev base L xs mi) (hmc : mc = MCo mi ∧ ms = MSo mi) (hlo : meth.locks = false) (hrt : meth.sig.returnType = rtOf mi) (hd : dkI mi pc .areturn 1 = true) (hre : rtOf mi = some (.object RX1)) (hh : match st with
      | [(2, v)] => Y.2.2.2.1 ≤ c0 + mc ∧ Y.2.2.2.2 ≤ s0 + ms ∧ Qq (2, v) F A R (Y.1, Y.2.1, Y.2.2.1, c0 + mc, s0 + ms)
      | _ => False) : SK p l e Rm s m args below meth c (MQ below (QC D cA ev base N0 c0 s0 ad0 mi Qq) args s mc ms (fun q => base ≤ q)) D cA ev base LG ad0 N0 c0 s0 mc ms pc ls st F A R Y := by
  intro hw hl hs hlg hn h1 h2 h3 h4 h5 ad H locs lsC hA hP hD hS hLV
  obtain ⟨hx, hb, hml, hown, hts, hK, hbs, hin, hFG⟩ := hF
  split at hh
  · rename_i v
    obtain ⟨g0, g1, h⟩ := hh
    obtain ⟨rfl, rfl⟩ := hmc
    refine W.widen (k := MCo mi) (n := MSo mi) (by omega) (by omega) ?_
    exact W.aret (v := cz ev ad (2, v)) hx hb (by rw [hrt, hre]) (Or.inl ⟨_, rfl⟩) cz_ref (fun t ht hW => ⟨⟨(2, v), F, A, R, (Y.1, Y.2.1, Y.2.2.1, c0 + MCo mi, s0 + MSo mi), ad, h, rfl, wfS_sp hw, (wfL_c.mp hs).1, h5, hA, by rw [ht]; exact hP, hD, ⟨fun z => absurd z (by show ¬ (2 : Nat) = 9; decide), fun z => by rw [hre] at z; cases z⟩, rfl, rfl⟩, hS.F ht⟩) hS.2.2 (dk hd) hlo
  · exact hh.elim

theorem sim_73 (hF : FX p s m args meth c D cA ev base L xs mi) (hmc : mc = MCo mi ∧ ms = MSo mi) (hlo : meth.locks = false) (hrt : meth.sig.returnType = rtOf mi) {ty : FieldType} (hd : dkI mi pc .ireturn 1 = true) (hre : rtOf mi = some ty) (hty : ∀ v, y ≤ v → v ≤ z → narrow ty (.int (Int32.ofInt v)) = .int (Int32.ofInt v)) (hh : match st with
      | [(0, v)] => y ≤ v ∧ v ≤ z ∧ Y.2.2.2.1 ≤ c0 + mc ∧ Y.2.2.2.2 ≤ s0 + ms ∧ Qq (0, v) F A R (Y.1, Y.2.1, Y.2.2.1, c0 + mc, s0 + ms)
      | _ => False) : SK p l e Rm s m args below meth c (MQ below (QC D cA ev base N0 c0 s0 ad0 mi Qq) args s mc ms (fun q => base ≤ q)) D cA ev base LG ad0 N0 c0 s0 mc ms pc ls st F A R Y := by
  intro hw hl hs hlg hn h1 h2 h3 h4 h5 ad H locs lsC hA hP hD hS hLV
  obtain ⟨hx, hb, hml, hown, hts, hK, hbs, hin, hFG⟩ := hF
  split at hh
  · rename_i v
    obtain ⟨g2, g3, g0, g1, h⟩ := hh
    obtain ⟨rfl, rfl⟩ := hmc
    refine W.widen (k := MCo mi) (n := MSo mi) (by omega) (by omega) ?_
    exact W.zret (v := Int32.ofInt v) hx hb (by rw [hrt, hre]) (hty v g2 g3) (fun t ht hW => ⟨⟨(0, v), F, A, R, (Y.1, Y.2.1, Y.2.2.1, c0 + MCo mi, s0 + MSo mi), ad, h, rfl, wfS_sp hw, (wfL_c.mp hs).1, h5, hA, by rw [ht]; exact hP, hD, ⟨fun z => absurd z (by show ¬ (0 : Nat) = 9; decide), fun z => by rw [hre] at z; cases z⟩, rfl, rfl⟩, hS.F ht⟩) hS.2.2 (dk hd) hlo
  · exact hh.elim

theorem nar_73 {ty : FieldType} {y z : Int} (h : (ty = .boolean ∧ y = 0 ∧ z = 1) ∨ (ty = .char ∧ y = 0 ∧ z = 65535) ∨ (ty = .byte ∧ y = -128 ∧ z = 127)) : ∀ v, y ≤ v → v ≤ z → narrow ty (.int (Int32.ofInt v)) = .int (Int32.ofInt v) := by
  intro v h0 h1
  rcases h with ⟨rfl, rfl, rfl⟩ | ⟨rfl, rfl, rfl⟩ | ⟨rfl, rfl, rfl⟩
  · exact (nar_b h0 h1).1
  · obtain ⟨k, rfl⟩ : ∃ k : Nat, v = (k : Int) := ⟨v.toNat, by omega⟩
    rw [Int32.ofInt_eq_ofNat]
    exact (pk_charN (q := k) (by omega)).1
  · have := nar_by h0 h1
    rw [vp_nar_byte] at this
    show Value.int (Int32.ofInt v).toInt8.toInt32 = _
    rw [this]
end SIM
