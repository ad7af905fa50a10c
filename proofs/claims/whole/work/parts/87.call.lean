/-! RETURNS, CALLS, EVERY METHOD -/
def rvl (ev : Ev) (ad : Nat → Nat) (v : Vv) : Option Value := if v.1 = 9 then none else some (cz ev ad v)
/-- a method's end: the answer and the world, as the machine over whole numbers has them -/
def QC (D : va_G) (cA : Nat → ClassId) (ev : Ev) (base N0 c0 s0 : Nat) (ad0 : Nat → Nat) (mi : Nat) (Qq : Qq) : Array Value → State → Outcome → State → Prop := fun _ st o t =>
  (∃ (v : Vv) (F A R : Fn2) (Y : Yy) (ad : Nat → Nat), Qq v F A R Y ∧ o = .returned (rvl ev ad v) ∧ wfS F A R Y ∧ wfV Y.2.2.1 v ∧ N0 ≤ Y.2.2.1 ∧ (∀ i, i < N0 → ad i = ad0 i) ∧ va_P D vwCl (wld cA ad F A R Y) t.heap ∧ va_D (fun q => base ≤ q) (wld cA ad F A R Y) ∧ (v.1 = 9 ↔ rtOf mi = none) ∧ Y.2.2.2.1 = c0 + MCo mi ∧ Y.2.2.2.2 = s0 + MSo mi) ∧ va_F (fun q => base ≤ q) st t
theorem wfS_sp {F A R : Fn2} {Y : Yy} {x y : Nat} (h : wfS F A R Y) : wfS F A R (Y.1, Y.2.1, Y.2.2.1, x, y) := h
section SIM
variable {p : Program} {l : Launch} {e : Env} {Rm : Room} {s : State} {m : MethodId} {args : Array Value} {below : List Frame} {meth : Method} {c : Code} {Qq : Qq} {D : va_G} {cA : Nat → ClassId} {ev : Ev} {base : Nat} {LG : List Nat} {ad0 : Nat → Nat} {N0 c0 s0 mc ms : Nat} {L : Int} {xs : Int → Int} {mi pc len cp wi a b : Nat} {y z : Int} {w : List (Int × Nat)} {ls st : List Vv} {F A R : Fn2} {Y : Yy}
theorem sim_72 (hF : FXz p s m args meth c D cA ev base L xs mi) (hmc : mc = MCo mi ∧ ms = MSo mi) (hlo : meth.locks = false) (hrt : meth.sig.returnType = rtOf mi) (hd : dkI mi pc .ireturn 1 = true) (hre : rtOf mi = some .int) (hh : match st with
      | [(0, v)] => Y.2.2.2.1 ≤ c0 + mc ∧ Y.2.2.2.2 ≤ s0 + ms ∧ Qq (0, v) F A R (Y.1, Y.2.1, Y.2.2.1, c0 + mc, s0 + ms)
      | _ => False) : SK p l e Rm s m args below meth c (MQ below (QC D cA ev base N0 c0 s0 ad0 mi Qq) args s mc ms (fun q => base ≤ q)) D cA ev base LG ad0 N0 c0 s0 mc ms pc ls st F A R Y := by
  intro hw hl hs hlg hn h1 h2 h3 h4 h5 ad H locs lsC hA hP hD hS hLV
  obtain ⟨hx, hb, hml, hown, hts, hK, hbs, hin, hFG⟩ := hF
  split at hh
  · rename_i v
    obtain ⟨g0, g1, h⟩ := hh
    obtain ⟨rfl, rfl⟩ := hmc
    refine W.widen (k := MCo mi) (n := MSo mi) (by omega) (by omega) ?_
    exact W.iret (v := Int32.ofInt v) hx hb (by rw [hrt, hre]) (fun t ht hW => ⟨⟨(0, v), F, A, R, (Y.1, Y.2.1, Y.2.2.1, c0 + MCo mi, s0 + MSo mi), ad, h, rfl, wfS_sp hw, (wfL_c.mp hs).1, h5, hA, by rw [ht]; exact hP, hD, ⟨fun z => absurd z (by show ¬ (0 : Nat) = 9; decide), fun z => by rw [hre] at z; cases z⟩, rfl, rfl⟩, hS.F ht⟩) hS.2.2 (dk hd) hlo
  · exact hh.elim

theorem sim_74 (hF : FXz p s m args meth c D cA ev base L xs mi) (hmc : mc = MCo mi ∧ ms = MSo mi) (hlo : meth.locks = false) (hrt : meth.sig.returnType = rtOf mi) (hd : dkI mi pc .return_ 1 = true) (hre : rtOf mi = none) (hh : match st with
      | [] => Y.2.2.2.1 ≤ c0 + mc ∧ Y.2.2.2.2 ≤ s0 + ms ∧ Qq (9, 0) F A R (Y.1, Y.2.1, Y.2.2.1, c0 + mc, s0 + ms)
      | _ => False) : SK p l e Rm s m args below meth c (MQ below (QC D cA ev base N0 c0 s0 ad0 mi Qq) args s mc ms (fun q => base ≤ q)) D cA ev base LG ad0 N0 c0 s0 mc ms pc ls st F A R Y := by
  intro hw hl hs hlg hn h1 h2 h3 h4 h5 ad H locs lsC hA hP hD hS hLV
  obtain ⟨hx, hb, hml, hown, hts, hK, hbs, hin, hFG⟩ := hF
  split at hh
  · obtain ⟨g0, g1, h⟩ := hh
    obtain ⟨rfl, rfl⟩ := hmc
    refine W.widen (k := MCo mi) (n := MSo mi) (by omega) (by omega) ?_
    exact W.vret hx hb (by rw [hrt, hre]) (fun t ht hW => ⟨⟨(9, 0), F, A, R, (Y.1, Y.2.1, Y.2.2.1, c0 + MCo mi, s0 + MSo mi), ad, h, rfl, wfS_sp hw, trivial, h5, hA, by rw [ht]; exact hP, hD, ⟨fun _ => hre, fun _ => rfl⟩, rfl, rfl⟩, hS.F ht⟩) hS.2.2 (dk hd) hlo
  · exact hh.elim

theorem sim_75 (hF : FXz p s m args meth c D cA ev base L xs mi) (hmc : mc = MCo mi ∧ ms = MSo mi) (hlo : meth.locks = false) (hrt : meth.sig.returnType = rtOf mi) (hd : dkI mi pc .areturn 1 = true) (hre : rtOf mi = some (.object RX1)) (hh : match st with
      | [(2, v)] => Y.2.2.2.1 ≤ c0 + mc ∧ Y.2.2.2.2 ≤ s0 + ms ∧ Qq (2, v) F A R (Y.1, Y.2.1, Y.2.2.1, c0 + mc, s0 + ms)
      | _ => False) : SK p l e Rm s m args below meth c (MQ below (QC D cA ev base N0 c0 s0 ad0 mi Qq) args s mc ms (fun q => base ≤ q)) D cA ev base LG ad0 N0 c0 s0 mc ms pc ls st F A R Y := by
  intro hw hl hs hlg hn h1 h2 h3 h4 h5 ad H locs lsC hA hP hD hS hLV
  obtain ⟨hx, hb, hml, hown, hts, hK, hbs, hin, hFG⟩ := hF
  split at hh
  · rename_i v
    obtain ⟨g0, g1, h⟩ := hh
    obtain ⟨rfl, rfl⟩ := hmc
    refine W.widen (k := MCo mi) (n := MSo mi) (by omega) (by omega) ?_
    exact W.aret (v := cz ev ad (2, v)) hx hb (by rw [hrt, hre]) (Or.inl ⟨_, rfl⟩) cz_ref (fun t ht hW => ⟨⟨(2, v), F, A, R, (Y.1, Y.2.1, Y.2.2.1, c0 + MCo mi, s0 + MSo mi), ad, h, rfl, wfS_sp hw, (wfL_c.mp hs).1, h5, hA, by rw [ht]; exact hP, hD, ⟨fun z => absurd z (by show ¬ (2 : Nat) = 9; decide), fun z => by rw [hre] at z; cases z⟩, rfl, rfl⟩, hS.F ht⟩) hS.2.2 (dk hd) hlo
  · exact hh.elim

theorem sim_73 (hF : FXz p s m args meth c D cA ev base L xs mi) (hmc : mc = MCo mi ∧ ms = MSo mi) (hlo : meth.locks = false) (hrt : meth.sig.returnType = rtOf mi) {ty : FieldType} (hd : dkI mi pc .ireturn 1 = true) (hre : rtOf mi = some ty) (hty : ∀ v, y ≤ v → v ≤ z → narrow ty (.int (Int32.ofInt v)) = .int (Int32.ofInt v)) (hh : match st with
      | [(0, v)] => y ≤ v ∧ v ≤ z ∧ Y.2.2.2.1 ≤ c0 + mc ∧ Y.2.2.2.2 ≤ s0 + ms ∧ Qq (0, v) F A R (Y.1, Y.2.1, Y.2.2.1, c0 + mc, s0 + ms)
      | _ => False) : SK p l e Rm s m args below meth c (MQ below (QC D cA ev base N0 c0 s0 ad0 mi Qq) args s mc ms (fun q => base ≤ q)) D cA ev base LG ad0 N0 c0 s0 mc ms pc ls st F A R Y := by
  intro hw hl hs hlg hn h1 h2 h3 h4 h5 ad H locs lsC hA hP hD hS hLV
  obtain ⟨hx, hb, hml, hown, hts, hK, hbs, hin, hFG⟩ := hF
  split at hh
  · rename_i v
    obtain ⟨g2, g3, g0, g1, h⟩ := hh
    obtain ⟨rfl, rfl⟩ := hmc
    refine W.widen (k := MCo mi) (n := MSo mi) (by omega) (by omega) ?_
    exact W.zret (v := Int32.ofInt v) hx hb (by rw [hrt, hre]) (hty v g2 g3) (fun t ht hW => ⟨⟨(0, v), F, A, R, (Y.1, Y.2.1, Y.2.2.1, c0 + MCo mi, s0 + MSo mi), ad, h, rfl, wfS_sp hw, (wfL_c.mp hs).1, h5, hA, by rw [ht]; exact hP, hD, ⟨fun z => absurd z (by show ¬ (0 : Nat) = 9; decide), fun z => by rw [hre] at z; cases z⟩, rfl, rfl⟩, hS.F ht⟩) hS.2.2 (dk hd) hlo
  · exact hh.elim

theorem nar_73 {ty : FieldType} {y z : Int} (h : (ty = .boolean ∧ y = 0 ∧ z = 1) ∨ (ty = .char ∧ y = 0 ∧ z = 65535) ∨ (ty = .byte ∧ y = -128 ∧ z = 127)) : ∀ v, y ≤ v → v ≤ z → narrow ty (.int (Int32.ofInt v)) = .int (Int32.ofInt v) := by
  intro v h0 h1
  rcases h with ⟨rfl, rfl, rfl⟩ | ⟨rfl, rfl, rfl⟩ | ⟨rfl, rfl, rfl⟩
  · exact (nar_b h0 h1).1
  · obtain ⟨k, rfl⟩ : ∃ k : Nat, v = (k : Int) := ⟨v.toNat, by omega⟩
    rw [Int32.ofInt_eq_ofNat]
    exact (pk_charN (q := k) (by omega)).1
  · have := nar_by h0 h1
    rw [vp_nar_byte] at this
    show Value.int (Int32.ofInt v).toInt8.toInt32 = _
    rw [this]
end SIM
def WSo (y : Nat) : List Cond := .code (nmOf y) (byOf y) (NLo y) (rtOf y) :: GW
def rmo (k y : Nat) : Room := { frames := k, cells := MCo y, slots := MSo y, locals := 60 * k }
/-- what every method promises at depth k: the machine over whole numbers says how it ends -/
def EMet (l : Launch) (D : va_G) (cA : Nat → ClassId) (ev : Ev) (base : Nat) (L : Int) (xs : Int → Int) (k : Nat) (E : Ee) : Prop :=
  ∀ (y : Nat), y < 231 → ∀ (args : List Vv) (F A R : Fn2) (Y : Yy) (Qq : Qq) (ad : Nat → Nat), E y args F A R Y Qq → wfS F A R Y → wfL Y.2.2.1 args →
    Met l (nmOf y) (WSo y) (rmo k y) (va_Pc (args.map (cz ev ad)) (fun U => va_P D vwCl (wld cA ad F A R Y) U.heap ∧ va_K D vwCl (tys6 cA) U ∧ va_D (fun q => base ≤ q) (wld cA ad F A R Y) ∧ base ≤ U.heap.size ∧ FG base ev L xs U U.heap)) (QC D cA ev base Y.2.2.1 Y.2.2.2.1 Y.2.2.2.2 ad y Qq) (MCo y) (MSo y) (fun q => base ≤ q)
theorem okM_s {y : Nat} (h : okM y = true) : Cond.code (nmOf y) (byOf y) (NLo y) (rtOf y) ∈ GW ∧ Cond.initialized (nmOf y).cls ∈ GW ∧ (stOf y = true → Cond.static (nmOf y) ∈ GW) ∧ (stOf y = false → Cond.instanceMethod (nmOf y) ∈ GW) ∧ (stOf y = false → inOf y = false → Cond.selects (nmOf y).cls (nmOf y) (nmOf y) ∈ GW) ∧ (parseMethodDescriptor (nmOf y).desc).map (fun d => d.parameters.length) = some (npOf y) ∧ ((nmOf y).cls ≠ "java/lang/invoke/MethodHandle" ∧ (nmOf y).cls ≠ "java/lang/invoke/VarHandle") ∧ plainName (nmOf y).cls = true ∧ NLo y ≤ 32 ∧ (inOf y = true → (nmOf y).name = "<init>") := by
  unfold okM at h
  simp only [Bool.and_eq_true, decide_eq_true_eq, Bool.or_eq_true] at h
  obtain ⟨h1, h2, h3, h4, h5, h6, h7, h8, h9⟩ := h
  refine ⟨wG (wd h1) rfl, wG (wd h2) rfl, fun z => ?_, fun z => ?_, fun z1 z2 => ?_, h5, h6, h7, h8, h9⟩
  · rw [z, if_pos rfl] at h3; exact wG (wd h3) rfl
  · rw [z, if_neg (by decide)] at h3; exact wG (wd h3) rfl
  · rcases h4 with q | q | q
    · rw [z1] at q; cases q
    · rw [z2] at q; cases q
    · exact wG (wd q) rfl
theorem GW_good {ws : List Cond} (h : ∀ w ∈ ws, w ∈ GW) : GoodIn GW ws := fun w hw => ⟨h w hw, good_of_word (List.mem_filter.mp (h w hw)).2⟩
theorem FG_go {base : Nat} {ev : Ev} {L : Int} {xs : Int → Int} {s U : State} {H : Heap} {locs : List Loc} (h : FG base ev L xs s s.heap) (hS : va_S (fun q => base ≤ q) s.heap H locs) (hU : U.heap = H) (hW : s.WarmedH U.vm) : FG base ev L xs U U.heap := by
  obtain ⟨a1, a2, a3, a4, a5, a6, a7, a8, a9, a10, a11, a12, a13⟩ := h
  rw [hU]
  refine ⟨(a1.kept (hS.2.1 _ a2 (by omega))).moved hW.alike, Nat.lt_of_lt_of_le a2 hS.1, a3, (a4.kept hS.2.1).moved hW.alike, a5.warm hW, a6.warm hW, (a7.kept hS.2.1).moved hW.alike, (a8.kept hS.2.1).moved hW.alike, a9, fun w hw => ?_, a11.moved hW.alike, a12.moved hW.alike, a13⟩
  · have hw2 := (List.mem_filter.mp hw).2
    have q := a10 w hw
    cases w <;> first | (exact va_Nw.warmM hW q) | (cases hw2)
section SIM
variable {p : Program} {l : Launch} {e : Env} {Rm : Room} {s : State} {m : MethodId} {args : Array Value} {below : List Frame} {meth : Method} {c : Code} {Qf : State → Prop} {D : va_G} {cA : Nat → ClassId} {ev : Ev} {base : Nat} {LG : List Nat} {ad0 : Nat → Nat} {N0 c0 s0 mc ms : Nat} {L : Int} {xs : Int → Int} {mi pc len cp wi a b : Nat} {y z : Int} {w : List (Int × Nat)} {ls st : List Vv} {F A R : Fn2} {Y : Yy}
theorem call_k {st0 : List Value} {rest : List Vv} {y1 : Nat} {Qk : Qq} {a0 : Array Value} {ad : Nat → Nat} {H : Heap} {locs : List Loc} {lsC : Array Slot}
    (hr : va_Run p l e Rm s m args below meth c H locs (Y.2.2.2.1 - c0) (Y.2.2.2.2 - s0) (MCo y1) (MSo y1) (F0 m pc lsC st0) (rest.map (cz ev ad)) (QC D cA ev base Y.2.2.1 Y.2.2.2.1 Y.2.2.2.2 ad y1 Qk a0) (fun q => base ≤ q))
    (hk : ∀ v F A R Y', Qk v F A R Y' → (v.1 = 9 ↔ rtOf y1 = none) → SK p l e Rm s m args below meth c Qf D cA ev base LG ad0 N0 c0 s0 mc ms (pc + 3) ls (if v.1 = 9 then rest else v :: rest) F A R Y')
    (hl : wfL Y.2.2.1 ls) (hs : wfL Y.2.2.1 rest) (hlg : ∀ (i : Nat) (v : Vv), ls[i]? = some v → v.1 = 1 → i ∈ LG) (hn : ls.length = c.maxLocals) (h1 : c0 ≤ Y.2.2.2.1) (h2 : Y.2.2.2.1 + MCo y1 ≤ c0 + mc) (h3 : s0 ≤ Y.2.2.2.2) (h4 : Y.2.2.2.2 + MSo y1 ≤ s0 + ms) (h5 : N0 ≤ Y.2.2.1) (hA : ∀ i, i < N0 → ad i = ad0 i) (hS : va_S (fun q => base ≤ q) s.heap H locs) (hLV : LV ev ad lsC ls) (hbs : base ≤ s.heap.size) :
    W p l e Rm s m args below meth c H locs (Y.2.2.2.1 - c0) (Y.2.2.2.2 - s0) Qf (F0 m pc lsC st0) := by
  intro T hT X
  obtain ⟨v, st₀, t, T', Lc, g0, X', hL, e1, e2, hq, stp⟩ := hr T hT X
  obtain ⟨⟨u, F', A', R', Y', ad', hQ, hv, hw', hwv, hN', had', hP', hD', h9, hcu, hsu⟩, hz, hkp⟩ := hq
  cases hv
  rw [g0] at hz hkp
  have hS1 : va_S (fun q => base ≤ q) s.heap T'.heap (locs ++ Lc) := ⟨Nat.le_trans hS.1 (by rw [e1]; exact hz), fun q z1 z2 => by rw [e1, hkp q (Nat.lt_of_lt_of_le z1 hS.1) z2]; exact hS.2.1 q z1 z2, fun q hq => by
      rcases List.mem_append.mp hq with z | z
      · exact hS.2.2 q z
      · exact hL q z⟩
  have hst : wfL Y'.2.2.1 (if u.1 = 9 then rest else u :: rest) := by
    split
    · exact wfL_le hs hN'
    · exact wfL_c.mpr ⟨hwv, wfL_le hs hN'⟩
  have k := hk u F' A' R' Y' hQ h9 hw' (wfL_le hl hN') hst hlg hn (by omega) (by omega) (by omega) (by omega) (by omega) ad' T'.heap (locs ++ Lc) lsC (fun i hi => (had' i (by omega)).trans (hA i hi)) (by rw [e1]; exact hP') hD' hS1 (hLV.ad hl had')
  have hsk : (if u.1 = 9 then rest else u :: rest).map (cz ev ad') = (rvl ev ad' u).toList ++ rest.map (cz ev ad) := by
    unfold rvl
    split
    · rw [cz_map had' _ hs]; rfl
    · rw [List.map_cons, cz_map had' _ hs]; rfl
  rw [hsk, show Y'.2.2.2.1 - c0 = Y.2.2.2.1 - c0 + MCo y1 by omega, show Y'.2.2.2.2 - s0 = Y.2.2.2.2 - s0 + MSo y1 by omega] at k
  obtain ⟨t2, a1, b1⟩ := k T' rfl X'
  exact ⟨t2, stp t2 a1, b1⟩
theorem NW_calling {w : Cond} (hw : w ∈ NWL) {U : State} {g : JFrame} {mk : MethodId} {a : Array Value} (h : va_Nw w U) : va_Nw w (U.calling g mk a) := by
  have hw2 := (List.mem_filter.mp hw).2
  cases w <;> first | (exact va_Nw.same rfl rfl h) | (cases hw2)
theorem pc_blind {av : List Value} {cl : List vw_C} {w : va_W} {base : Nat} {L : Int} {xs : Int → Int} : FrameBlind (va_Pc av (fun U => va_P D cl w U.heap ∧ va_K D cl (tys6 cA) U ∧ va_D (fun q => base ≤ q) w ∧ base ≤ U.heap.size ∧ FG base ev L xs U U.heap)) := by
  intro a U g mk q
  obtain ⟨q0, qP, qK, qD, qb, qF⟩ := q
  refine ⟨q0, qP, va_K.moved (u := U) (U := U.calling g mk a) (Vm.Alike.refl U.vm) qK, qD, qb, ?_⟩
  obtain ⟨a1, a2, a3, a4, a5, a6, a7, a8, a9, a10, a11, a12, a13⟩ := qF
  exact ⟨a1.moved (U := U.calling g mk a) (Vm.Alike.refl U.vm), a2, a3, a4.moved (U := U.calling g mk a) (Vm.Alike.refl U.vm), a5.same rfl, a6.same rfl, a7.moved (U := U.calling g mk a) (Vm.Alike.refl U.vm), a8.moved (U := U.calling g mk a) (Vm.Alike.refl U.vm), a9, fun w hw => NW_calling hw (a10 w hw), a11.moved (U := U.calling g mk a) (Vm.Alike.refl U.vm), AO2.moved (u := U) (U := U.calling g mk a) (Vm.Alike.refl U.vm) a12, a13⟩

theorem split_b {st : List Vv} {b : Nat} (h1 : 1 ≤ b) (h : b ≤ st.length) : ∃ st1 v, st = st1 ++ v :: st.drop b ∧ st.drop (b - 1) = v :: st.drop b ∧ (st.take b).reverse = v :: st1.reverse ∧ st1.length = b - 1 := by
  obtain ⟨k, rfl⟩ : ∃ k, b = k + 1 := ⟨b - 1, by omega⟩
  have hk : k < st.length := by omega
  refine ⟨st.take k, st[k], ?_, ?_, ?_, ?_⟩
  · rw [List.getElem_cons_drop, List.take_append_drop]
  · rw [Nat.add_sub_cancel, List.getElem_cons_drop]
  · rw [List.take_succ_eq_append_getElem hk, List.reverse_append]; rfl
  · rw [List.length_take]; omega
theorem okCall_s {mi pc cp wi a b kd rc : Nat} (h : okCall mi pc cp wi a b kd rc = true) : a < 231 ∧ (1 ≤ b ∨ rc = 0) ∧ (rc = 0 ∧ 1 ≤ kd ∧ kd ≤ 2 ∨ rc = 1 ∧ kd = 0 ∧ (nmOf a).cls = "java/lang/String" ∨ 10 ≤ rc ∧ rc < 22 ∧ (kd = 0 ∨ 3 ≤ kd) ∧ (nmOf a).cls = tR (rc - 10)) ∧
    ((kd = 0 ∧ decode (byOf mi) pc = .ok (.invokevirtual cp, 3) ∧ Cond.methodLink (nmOf mi).cls cp (nmOf a) ∈ GW ∧ b = npOf a + 1 ∧ stOf a = false ∧ inOf a = false) ∨
     (kd = 1 ∧ decode (byOf mi) pc = .ok (.invokestatic cp, 3) ∧ Cond.methodLink (nmOf mi).cls cp (nmOf a) ∈ GW ∧ b = npOf a ∧ stOf a = true) ∨
     (kd = 2 ∧ decode (byOf mi) pc = .ok (.invokestatic cp, 3) ∧ Cond.methodLinkNest (nmOf mi).cls cp (nmOf a) RX10 ∈ NWL ∧ b = npOf a ∧ stOf a = true) ∨
     (kd = 3 ∧ decode (byOf mi) pc = .ok (.invokespecial cp, 3) ∧ Cond.methodLink (nmOf mi).cls cp (nmOf a) ∈ GW ∧ b = npOf a + 1 ∧ stOf a = false ∧ inOf a = true) ∨
     (kd = 4 ∧ decode (byOf mi) pc = .ok (.invokespecial cp, 3) ∧ Cond.methodLinkNest (nmOf mi).cls cp (nmOf a) RX10 ∈ NWL ∧ b = npOf a + 1 ∧ stOf a = false ∧ inOf a = true)) := by
  unfold okCall at h
  simp only [Bool.and_eq_true, decide_eq_true_eq] at h
  obtain ⟨h1, h2, h3, h4⟩ := h
  refine ⟨h1, h2, h3, ?_⟩
  split at h4
  · simp only [Bool.and_eq_true, decide_eq_true_eq, Bool.not_eq_true'] at h4
    exact Or.inl ⟨rfl, dk h4.1, wG (wd h4.2.1) rfl, h4.2.2.1, h4.2.2.2.1, h4.2.2.2.2⟩
  · simp only [Bool.and_eq_true, decide_eq_true_eq] at h4
    exact Or.inr (Or.inl ⟨rfl, dk h4.1, wG (wd h4.2.1) rfl, h4.2.2.1, h4.2.2.2⟩)
  · simp only [Bool.and_eq_true, decide_eq_true_eq] at h4
    exact Or.inr (Or.inr (Or.inl ⟨rfl, dk h4.1, List.mem_filter.mpr ⟨wd h4.2.1, rfl⟩, h4.2.2.1, h4.2.2.2⟩))
  · simp only [Bool.and_eq_true, decide_eq_true_eq, Bool.not_eq_true'] at h4
    exact Or.inr (Or.inr (Or.inr (Or.inl ⟨rfl, dk h4.1, wG (wd h4.2.1) rfl, h4.2.2.1, h4.2.2.2.1, h4.2.2.2.2⟩)))
  · simp only [Bool.and_eq_true, decide_eq_true_eq, Bool.not_eq_true'] at h4
    exact Or.inr (Or.inr (Or.inr (Or.inr ⟨rfl, dk h4.1, List.mem_filter.mpr ⟨wd h4.2.1, rfl⟩, h4.2.2.1, h4.2.2.2.1, h4.2.2.2.2⟩)))
  · cases h4
theorem sim_call (hF : FXz p s m args meth c D cA ev base L xs mi) {k kd rc : Nat} {E : Ee} (hRk : k + 1 ≤ Rm.frames ∧ 60 * (k + 1) ≤ Rm.locals ∧ mc ≤ Rm.cells ∧ ms ≤ Rm.slots) (hE : EMet l D cA ev base L xs k E) (hc : okCall mi pc cp wi a b kd rc = true) (hM : okM a = true) (hri : kd = 3 ∨ kd = 4 → rtOf a = none) (hwk : wsum (st.drop b) ≤ 8) (hlen : b ≤ st.length) (hrc : rcvP rc (st.drop (b - 1)) Y) (hbu : Y.2.2.2.1 + MCo a ≤ c0 + mc ∧ Y.2.2.2.2 + MSo a ≤ s0 + ms) {Qk : Qq} (hEa : E a (st.take b).reverse F A R Y Qk) (hk : ∀ v F A R Y', Qk v F A R Y' → (v.1 = 9 ↔ rtOf a = none) → SK p l e Rm s m args below meth c Qf D cA ev base LG ad0 N0 c0 s0 mc ms (pc + 3) ls (if v.1 = 9 then st.drop b else v :: st.drop b) F A R Y') : SK p l e Rm s m args below meth c Qf D cA ev base LG ad0 N0 c0 s0 mc ms pc ls st F A R Y := by
  intro hw hl hs hlg hn h1 h2 h3 h4 h5 ad H locs lsC hA hP hD hS hLV
  obtain ⟨hx, hb, hml, hown, hts, hK, hbs, hin, hFG⟩ := hF
  obtain ⟨ha, hb1, hrc1, hkd⟩ := okCall_s hc
  obtain ⟨mCode, mIni, mSt, mIn, mSel, mNp, mMH, mPl, mNL, mNm⟩ := okM_s hM
  have hargs : wfL Y.2.2.1 (st.take b).reverse := fun v hv => hs v (List.mem_of_mem_take (List.mem_reverse.mp hv))
  have hrest : wfL Y.2.2.1 (st.drop b) := fun v hv => hs v (List.mem_of_mem_drop hv)
  have hMet := hE a ha (st.take b).reverse F A R Y Qk ad hEa hw hargs
  have hsm := wsum_s (ad := ad) hFG.2.2.2.2.2.2.2.2.1 (st.drop b) hrest
  have hgood : GoodIn GW (WSo a) := GW_good (fun w hw => by
    rcases List.mem_cons.mp hw with q | q
    · rw [q]; exact mCode
    · exact q)
  have hRR : (rmo k a).frames + 1 ≤ Rm.frames ∧ 8 + (NLo a + 11) + (rmo k a).locals ≤ Rm.locals := ⟨hRk.1, by show 8 + (NLo a + 11) + 60 * k ≤ _; omega⟩
  have hU : ∀ U : State, U.heap = H → s.WarmedH U.vm → va_P D vwCl (wld cA ad F A R Y) U.heap ∧ va_K D vwCl (tys6 cA) U ∧ va_D (fun q => base ≤ q) (wld cA ad F A R Y) ∧ base ≤ U.heap.size ∧ FG base ev L xs U U.heap := fun U h9 hW => ⟨by rw [h9]; exact hP, va_K.moved hW.alike hK, hD, by rw [h9]; exact Nat.le_trans hbs hS.1, FG_go hFG hS h9 hW⟩
  have hCF : CallFix p m c (byOf mi) c.maxLocals s args GW (nmOf mi).cls := ⟨hx, hb, rfl, hown, hts⟩
  have hsz : lsC.size = c.maxLocals := hLV.1.trans hn
  have hfit : Y.2.2.2.1 - c0 + MCo a ≤ Rm.cells ∧ Y.2.2.2.2 - s0 + MSo a ≤ Rm.slots := by omega
  have hdd : (nmOf a).cls ≠ "java/lang/invoke/MethodHandle" ∧ (nmOf a).cls ≠ "java/lang/invoke/VarHandle" ∧ (parseMethodDescriptor (nmOf a).desc).map (fun d => d.parameters.length) = some (npOf a) := ⟨mMH.1, mMH.2, mNp⟩
  have fin := fun {st0 : List Value} {a0 : Array Value} hr => call_k (ev := ev) (LG := LG) (ad0 := ad0) (N0 := N0) (st0 := st0) (a0 := a0) hr hk hl hrest hlg hn h1 hbu.1 h3 hbu.2 h5 hA hS hLV hbs
  rcases hkd with ⟨rfl, hd, hlk, hbn, hst, hni⟩ | ⟨rfl, hd, hlk, hbn, hst⟩ | ⟨rfl, hd, hlk, hbn, hst⟩ | ⟨rfl, hd, hlk, hbn, hst, hni⟩ | ⟨rfl, hd, hlk, hbn, hst, hni⟩
  · obtain ⟨st1, v, e1, e2, e3, e4⟩ := split_b (st := st) (b := b) (by omega) hlen
    rw [e2] at hrc
    have hrec : ∃ x, cz ev ad v = .ref x ∧ ∃ cell : Cell, H[x]? = some cell ∧ cell.vm.isStatics = false ∧ s.vm.findClass (nmOf a).cls = some cell.cls := by
      rcases hrc1 with ⟨-, q, -⟩ | ⟨rfl, -, hcl⟩ | ⟨q1, q2, -, hcl⟩
      · omega
      · obtain ⟨x, r9, q9, -⟩ := pT_e (show pT 3 (v :: st.drop b) (fun _ _ => True) from hrc)
        obtain ⟨rfl, -⟩ := List.cons.inj q9
        have hv := hs (3, x) (by rw [e1]; exact List.mem_append_right _ List.mem_cons_self)
        refine ⟨ev.1 x.toNat, rfl, ?_⟩
        rw [hcl]
        exact vk_recv hFG.2.2.2.1 (show x.toNat < 2 from by have h8 : 0 ≤ x ∧ x < 2 := hv; omega) hS
      · obtain ⟨ci, rfl⟩ : ∃ ci, rc = ci + 10 := ⟨rc - 10, by omega⟩
        obtain ⟨x, r9, q9, hkx⟩ := pA_e (show pA (v :: st.drop b) (fun o _ => Y.1 o = ci + 10) from hrc)
        obtain ⟨rfl, -⟩ := List.cons.inj q9
        obtain ⟨i, rfl, hi⟩ := wf_obj hw hkx (by omega)
        have he := wld_at (cA := cA) (ad := ad) (F := F) (A := A) (R := R) hi
        rw [ce_o (ci := ci) (by omega)] at he
        refine ⟨ad i, ro_c, ?_⟩
        rw [hcl, show ci + 10 - 10 = ci by omega]
        exact va_recv hK hP (vw_at ci (by omega)) he
    obtain ⟨x, hx1, hcell⟩ := hrec
    have hmap : (st.take b).reverse.map (cz ev ad) = .ref x :: st1.reverse.map (cz ev ad) := by rw [e3, List.map_cons, hx1]
    rw [hmap] at hMet
    refine fin (va_runV (As := st1.reverse.map (cz ev ad)) (n := npOf a) hCF hMet (cwV (npOf a) hts (GW_good (fun w hw => ?_)) rfl rfl rfl ⟨rfl, hdd⟩ hRR) ⟨pc_blind, hcell, fun U h9 hW => ⟨rfl, hU U h9 hW⟩⟩ rfl (by rw [List.length_map, List.length_reverse, e4]; omega) hsz ?_ (by show 2 * 0 + _ ≤ 8; omega) hd hfit)
    · rcases List.mem_append.mp hw with q | q
      · simp only [List.mem_cons, List.mem_nil_iff, or_false] at q
        rcases q with rfl | rfl | rfl | rfl
        · exact hlk
        · exact mIn hst
        · exact mSel hst hni
        · exact mIni
      · exact (hgood w q).1
    · show st.map (cz ev ad) = (st1.reverse.map (cz ev ad)).reverse ++ .ref x :: (st.drop b).map (cz ev ad)
      rw [← List.map_reverse, List.reverse_reverse, ← hx1, ← List.map_cons, ← List.map_append, ← e1]
  · refine fin (va_runS (As := (st.take b).reverse.map (cz ev ad)) (n := npOf a) hCF hMet ⟨callB_of (npOf a) hts hgood rfl rfl rfl (hts _ mIni) (hts _ hlk) hdd hRR, hts _ (mSt hst)⟩ ⟨pc_blind, fun U h9 hW => ⟨rfl, hU U h9 hW⟩⟩ rfl (by rw [List.length_map, List.length_reverse, List.length_take]; omega) hsz ?_ (by show 2 * 0 + _ ≤ 8; omega) hd hfit)
    show st.map (cz ev ad) = ((st.take b).reverse.map (cz ev ad)).reverse ++ (st.drop b).map (cz ev ad)
    rw [← List.map_reverse, List.reverse_reverse, ← List.map_append, List.take_append_drop]
  · refine fin (va_runSN (As := (st.take b).reverse.map (cz ev ad)) (n := npOf a) hCF hMet ⟨va_cnB (npOf a) hts hgood rfl rfl rfl (hFG.2.2.2.2.2.2.2.2.2.1 _ hlk) (hts _ mIni) hdd hRR, hts _ (mSt hst), trivial⟩ ⟨pc_blind, fun U h9 hW => ⟨rfl, hU U h9 hW⟩⟩ rfl (by rw [List.length_map, List.length_reverse, List.length_take]; omega) hsz ?_ (by show 2 * 0 + _ ≤ 8; omega) hd hfit)
    show st.map (cz ev ad) = ((st.take b).reverse.map (cz ev ad)).reverse ++ (st.drop b).map (cz ev ad)
    rw [← List.map_reverse, List.reverse_reverse, ← List.map_append, List.take_append_drop]
  all_goals
    obtain ⟨st1, v, e1, e2, e3, e4⟩ := split_b (st := st) (b := b) (by omega) hlen
    rw [e2] at hrc
    have hrec : ∃ x, cz ev ad v = .ref x := by
      rcases hrc1 with ⟨-, q, q2⟩ | ⟨rfl, q, -⟩ | ⟨q1, q2, -, hcl⟩
      · omega
      · omega
      · obtain ⟨ci, rfl⟩ : ∃ ci, rc = ci + 10 := ⟨rc - 10, by omega⟩
        obtain ⟨x, r9, q9, hkx⟩ := pA_e (show pA (v :: st.drop b) (fun o _ => Y.1 o = ci + 10) from hrc)
        obtain ⟨rfl, -⟩ := List.cons.inj q9
        obtain ⟨i, rfl, hi⟩ := wf_obj hw hkx (by omega)
        exact ⟨ad i, ro_c⟩
    obtain ⟨x, hx1⟩ := hrec
    have hmap : (st.take b).reverse.map (cz ev ad) = .ref x :: st1.reverse.map (cz ev ad) := by rw [e3, List.map_cons, hx1]
    rw [hmap] at hMet
    have hrt := hri (by omega)
    have hWS : WSo a = Cond.code (nmOf a) (byOf a) (NLo a) none :: GW := by unfold WSo; rw [hrt]
    have hstk : st.map (cz ev ad) = (st1.reverse.map (cz ev ad)).reverse ++ .ref x :: (st.drop b).map (cz ev ad) := by
      rw [← List.map_reverse, List.reverse_reverse, ← hx1, ← List.map_cons, ← List.map_append, ← e1]
  · exact fin (va_runI (As := st1.reverse.map (cz ev ad)) (n := npOf a) hCF hMet (cwI (npOf a) hts hgood hWS rfl rfl (hts _ mIni) (hts _ hlk) (hts _ (mIn hst)) (mNm hni) hdd hRR) ⟨pc_blind, fun U h9 hW => ⟨rfl, hU U h9 hW⟩⟩ rfl (by rw [List.length_map, List.length_reverse, e4]; omega) hsz hstk (by show 2 * 0 + _ ≤ 8; omega) hd hfit)
  · exact fin (va_runIN (As := st1.reverse.map (cz ev ad)) (n := npOf a) hCF hMet ⟨va_cnB (npOf a) hts hgood hWS rfl rfl (hFG.2.2.2.2.2.2.2.2.2.1 _ hlk) (hts _ mIni) hdd hRR, mNm hni, hts _ (mIn hst)⟩ ⟨pc_blind, fun U h9 hW => ⟨rfl, hU U h9 hW⟩⟩ rfl (by rw [List.length_map, List.length_reverse, e4]; omega) hsz hstk (by show 2 * 0 + _ ≤ 8; omega) hd hfit)
end SIM
