/-! FIELDS AND ARRAYS -/
theorem vw_at : ∀ ci : Nat, ci < 12 → vwCl[ci]? = some (tR ci, tF ci, nfOf ci) := by
  intro ci h
  match ci, h with
  | 0, _ => rfl
  | 1, _ => rfl
  | 2, _ => rfl
  | 3, _ => rfl
  | 4, _ => rfl
  | 5, _ => rfl
  | 6, _ => rfl
  | 7, _ => rfl
  | 8, _ => rfl
  | 9, _ => rfl
  | 10, _ => rfl
  | 11, _ => rfl
  | k + 12, h => exact absurd h (by omega)
theorem ty_ok : ∀ ci : Nat, ci < 12 → ∀ k, k < nfOf ci → parseFieldDescriptor (tF ci k).2.2.1 = some (tTy ci k) := by
  intro ci h
  match ci, h with
  | 0, _ => exact tyX0_ok
  | 1, _ => exact tyX1_ok
  | 2, _ => exact tyX2_ok
  | 3, _ => exact tyX3_ok
  | 4, _ => exact tyX4_ok
  | 5, _ => exact tyX5_ok
  | 6, _ => exact tyX6_ok
  | 7, _ => exact tyX7_ok
  | 8, _ => exact tyX8_ok
  | 9, _ => exact tyX9_ok
  | 10, _ => exact tyX10_ok
  | 11, _ => exact tyX11_ok
  | k + 12, h => exact absurd h (by omega)
theorem nm_ok : ∀ ci : Nat, ci < 12 → ∀ a, a < nfOf ci → ∀ b, b < nfOf ci → a ≠ b → (tF ci a).2.1 ≠ (tF ci b).2.1 := by
  intro ci h
  match ci, h with
  | 0, _ => exact nmX0
  | 1, _ => exact nmX1
  | 2, _ => exact nmX2
  | 3, _ => exact nmX3
  | 4, _ => exact nmX4
  | 5, _ => exact nmX5
  | 6, _ => exact nmX6
  | 7, _ => exact nmX7
  | 8, _ => exact nmX8
  | 9, _ => exact nmX9
  | 10, _ => exact nmX10
  | 11, _ => exact nmX11
  | k + 12, h => exact absurd h (by omega)
theorem inGW {ws : List Cond} (ps : List Nat) (hp : ws = ps.filterMap (fun i => lw_tbl[i]?)) (h : ws.all goodWord = true) : ∀ w ∈ ws, w ∈ GW := by
  intro w hw
  have h1 := List.all_eq_true.mp h w hw
  rw [hp] at hw
  obtain ⟨i, -, hi⟩ := List.mem_filterMap.mp hw
  exact wG (List.mem_of_getElem? hi) h1
theorem lay_0 : ∀ w ∈ u_ws RX0 TX0 13, w ∈ GW := inGW [453, 455, 457, 459, 461, 463, 465, 467, 469, 471, 473, 475, 477] (by decide +kernel) (by decide +kernel)
theorem lay_1 : ∀ w ∈ u_ws RX1 TX1 9, w ∈ GW := inGW [529, 531, 533, 535, 537, 539, 541, 543, 545] (by decide +kernel) (by decide +kernel)
theorem lay_2 : ∀ w ∈ u_ws RX2 TX2 19, w ∈ GW := inGW [323, 325, 327, 329, 331, 333, 335, 337, 339, 341, 343, 345, 347, 349, 351, 353, 355, 357, 359] (by decide +kernel) (by decide +kernel)
theorem lay_3 : ∀ w ∈ u_ws RX3 TX3 7, w ∈ GW := inGW [257, 259, 261, 263, 265, 267, 269] (by decide +kernel) (by decide +kernel)
theorem lay_4 : ∀ w ∈ u_ws RX4 TX4 5, w ∈ GW := inGW [493, 495, 497, 499, 501] (by decide +kernel) (by decide +kernel)
theorem lay_5 : ∀ w ∈ u_ws RX5 TX5 4, w ∈ GW := inGW [391, 393, 395, 397] (by decide +kernel) (by decide +kernel)
theorem lay_6 : ∀ w ∈ u_ws RX6 TX6 6, w ∈ GW := inGW [417, 419, 421, 423, 425, 427] (by decide +kernel) (by decide +kernel)
theorem lay_7 : ∀ w ∈ u_ws RX7 TX7 13, w ∈ GW := inGW [215, 217, 219, 221, 223, 225, 227, 229, 231, 233, 235, 237, 239] (by decide +kernel) (by decide +kernel)
theorem lay_8 : ∀ w ∈ u_ws RX8 TX8 10, w ∈ GW := inGW [153, 155, 157, 159, 161, 163, 165, 167, 169, 171] (by decide +kernel) (by decide +kernel)
theorem lay_9 : ∀ w ∈ u_ws RX9 TX9 4, w ∈ GW := inGW [368, 370, 372, 374] (by decide +kernel) (by decide +kernel)
theorem lay_10 : ∀ w ∈ u_ws RX10 TX10 19, w ∈ GW := inGW [567, 569, 571, 573, 575, 577, 579, 581, 583, 585, 587, 589, 591, 593, 595, 597, 599, 601, 603] (by decide +kernel) (by decide +kernel)
theorem lay_11 : ∀ w ∈ u_ws RX11 TX11 89, w ∈ GW := inGW [1305, 1307, 1309, 1311, 1313, 1315, 1317, 1319, 1321, 1323, 1325, 1327, 1329, 1331, 1333, 1335, 1337, 1339, 1341, 1343, 1345, 1347, 1349, 1351, 1353, 1355, 1357, 1359, 1361, 1363, 1365, 1367, 1369, 1371, 1373, 1375, 1377, 1379, 1381, 1383, 1385, 1387, 1389, 1391, 1393, 1395, 1397, 1399, 1401, 1403, 1405, 1407, 1409, 1411, 1413, 1415, 1417, 1419, 1421, 1423, 1425, 1427, 1429, 1431, 1433, 1435, 1437, 1439, 1441, 1443, 1445, 1447, 1449, 1451, 1453, 1455, 1457, 1459, 1461, 1463, 1465, 1467, 1469, 1471, 1473, 1475, 1477, 1479, 1481] (by decide +kernel) (by decide +kernel)
theorem lay_ok : ∀ ci : Nat, ci < 12 → ∀ w ∈ u_ws (tR ci) (tF ci) (nfOf ci), w ∈ GW := by
  intro ci h
  match ci, h with
  | 0, _ => exact lay_0
  | 1, _ => exact lay_1
  | 2, _ => exact lay_2
  | 3, _ => exact lay_3
  | 4, _ => exact lay_4
  | 5, _ => exact lay_5
  | 6, _ => exact lay_6
  | 7, _ => exact lay_7
  | 8, _ => exact lay_8
  | 9, _ => exact lay_9
  | 10, _ => exact lay_10
  | 11, _ => exact lay_11
  | k + 12, h => exact absurd h (by omega)
theorem fv_i {ad : Nat → Nat} {t : FieldType} {F R : Fn2} {a : Int} {k : Nat} (h : kOf t ∈ [0, 1]) : fv ad t F R a k = .int (Int32.ofInt (F a k)) ∧ tyK t = 0 := by
  cases t <;> first | exact ⟨rfl, rfl⟩ | (simp [kOf] at h)
theorem fv_l {ad : Nat → Nat} {t : FieldType} {F R : Fn2} {a : Int} {k : Nat} (h : kOf t ∈ [3]) : fv ad t F R a k = .long (Int64.ofInt (F a k)) ∧ tyK t = 1 := by
  cases t <;> first | exact ⟨rfl, rfl⟩ | (simp [kOf] at h)
theorem fv_r {ad : Nat → Nat} {t : FieldType} {F R : Fn2} {a : Int} {k : Nat} (h : kOf t ∈ [2]) : fv ad t F R a k = va_rf (ro ad (R a k)) ∧ tyK t = 2 := by
  cases t <;> first | exact ⟨rfl, rfl⟩ | (simp [kOf] at h)
theorem okFld_s {m pc cp wi c : Nat} {k : Int} {i : Jvm.ClassFile.Instr} {ts : List Nat} {fin : Bool} (h : okFld m pc cp wi c k i ts fin = true) : ∃ ci kk : Nat, c = 10 + ci ∧ ci < 12 ∧ k = (kk : Int) ∧ kk < nfOf ci ∧ decode (byOf m) pc = .ok (i, 3) ∧ Cond.fieldLink (nmOf m).cls cp (tF ci kk).1 (tF ci kk).2.1 (tF ci kk).2.2.1 ∈ GW ∧ kOf (tTy ci kk) ∈ ts ∧ (tF ci kk).2.2.2 = fin := by
  unfold okFld at h
  simp only [Bool.and_eq_true, decide_eq_true_eq] at h
  obtain ⟨h1, ⟨h2, h2'⟩, ⟨h3, h3'⟩, h4, h5, h6⟩ := h
  refine ⟨c - 10, k.toNat, by omega, by omega, by omega, h3', dk h1, wG (wd h4) rfl, h5, h6⟩
theorem wf_obj {F A R : Fn2} {Y : Yy} (hw : wfS F A R Y) {x : Int} {kd : Nat} (h : Y.1 x = kd) (hk : kd ≠ 99) : ∃ i : Nat, x = (i : Int) ∧ i < Y.2.2.1 := by
  by_cases h0 : 0 ≤ x ∧ x < Y.2.2.1
  · exact ⟨x.toNat, by omega, by omega⟩
  · exact absurd (h ▸ hw.1 x h0) hk
theorem ce_o {cA : Nat → ClassId} {ad : Nat → Nat} {F A R : Fn2} {Y : Yy} {i ci : Nat} (h : Y.1 (i : Int) = 10 + ci) : ce cA ad F A R Y i = .inr (ci, (List.range (nfOf ci)).map (fun k => fv ad (tTy ci k) F R i k)) := by
  unfold ce; rw [h, if_pos (by omega), show 10 + ci - 10 = ci by omega]
theorem ce_a {cA : Nat → ClassId} {ad : Nat → Nat} {F A R : Fn2} {Y : Yy} {i kd : Nat} (h : Y.1 (i : Int) = kd) (hk : kd < 10) : ce cA ad F A R Y i = .inl (cA kd, (Y.2.1 (i : Int)).toNat, ar ad kd A R i) := by
  unfold ce; rw [h, if_neg (by omega)]
theorem rng_at {α : Type} {f : Nat → α} {n k : Nat} (h : k < n) : ((List.range n).map f)[k]? = some (f k) := by
  rw [List.getElem?_map, List.getElem?_range h]; rfl
theorem ro_c {ad : Nat → Nat} {i : Nat} : va_rf (ro ad (i : Int)) = .ref (ad i) := by
  unfold ro; rw [if_neg (by omega)]; rfl
section SIM
variable {p : Program} {l : Launch} {e : Env} {Rm : Room} {s : State} {m : MethodId} {args : Array Value} {below : List Frame} {meth : Method} {c : Code} {Qf : State → Prop} {D : va_G} {cA : Nat → ClassId} {ev : Ev} {base : Nat} {LG : List Nat} {ad0 : Nat → Nat} {N0 c0 s0 mc ms : Nat} {L : Int} {xs : Int → Int} {mi pc len cp wi a b : Nat} {y z : Int} {ls st : List Vv} {F A R : Fn2} {Y : Yy}
theorem sim_35 (hF : FXz p s m args meth c D cA ev base L xs mi) {fin : Bool} (hd : okFld mi pc cp wi a y (.getfield cp) [0, 1] fin = true) (hh : pA st fun o r => Y.1 o = a ∧ SK p l e Rm s m args below meth c Qf D cA ev base LG ad0 N0 c0 s0 mc ms (pc + 3) ls ((0, F o y) :: r) F A R Y) : SK p l e Rm s m args below meth c Qf D cA ev base LG ad0 N0 c0 s0 mc ms pc ls st F A R Y := by
  intro hw hl hs hlg hn h1 h2 h3 h4 h5 ad H locs lsC hA hP hD hS hLV
  obtain ⟨hx, hb, hml, hown, hts, hK, hbs, hin, hFG⟩ := hF
  obtain ⟨x, r, rfl, h9, h⟩ := pA_e hh
  obtain ⟨ci, k, rfl, hc, rfl, hk, hd, hlk, hts2, -⟩ := okFld_s hd
  obtain ⟨i, rfl, hi⟩ := wf_obj hw h9 (by omega)
  have he := wld_at (cA := cA) (ad := ad) (F := F) (A := A) (R := R) hi
  rw [ce_o h9] at he
  show W p l e Rm s m args below meth c H locs (Y.2.2.2.1 - c0) (Y.2.2.2.2 - s0) Qf (F0 m pc lsC (va_rf (ro ad (i : Int)) :: r.map (cz ev ad)))
  rw [ro_c]
  have hft := (hw.2.2.1 (i : Int) (by omega) (by omega) (by omega) k (by rw [h9, show 10 + ci - 10 = ci by omega]; exact hk))
  rw [h9, show 10 + ci - 10 = ci by omega] at hft
  obtain ⟨e1, e2⟩ := fv_i (ad := ad) (F := F) (R := R) (a := (i : Int)) (k := k) hts2
  refine va_get (D := D) hx hb hts (lay_ok ci hc) hown hK hP i he (vw_at ci hc) k hk (hts _ hlk) (fun _ q => q) (v := fv ad (tTy ci k) F R i k) (rng_at hk) hd ?_
  rw [e1]
  exact h hw hl (wfL_c.mpr ⟨hft.1 e2, (wfL_c.mp hs).2⟩) hlg hn h1 h2 h3 h4 h5 ad H locs lsC hA hP hD hS hLV

theorem sim_37 (hF : FXz p s m args meth c D cA ev base L xs mi) {fin : Bool} (hd : okFld mi pc cp wi a y (.getfield cp) [3] fin = true) (hh : pA st fun o r => Y.1 o = a ∧ SK p l e Rm s m args below meth c Qf D cA ev base LG ad0 N0 c0 s0 mc ms (pc + 3) ls ((1, F o y) :: r) F A R Y) : SK p l e Rm s m args below meth c Qf D cA ev base LG ad0 N0 c0 s0 mc ms pc ls st F A R Y := by
  intro hw hl hs hlg hn h1 h2 h3 h4 h5 ad H locs lsC hA hP hD hS hLV
  obtain ⟨hx, hb, hml, hown, hts, hK, hbs, hin, hFG⟩ := hF
  obtain ⟨x, r, rfl, h9, h⟩ := pA_e hh
  obtain ⟨ci, k, rfl, hc, rfl, hk, hd, hlk, hts2, -⟩ := okFld_s hd
  obtain ⟨i, rfl, hi⟩ := wf_obj hw h9 (by omega)
  have he := wld_at (cA := cA) (ad := ad) (F := F) (A := A) (R := R) hi
  rw [ce_o h9] at he
  show W p l e Rm s m args below meth c H locs (Y.2.2.2.1 - c0) (Y.2.2.2.2 - s0) Qf (F0 m pc lsC (va_rf (ro ad (i : Int)) :: r.map (cz ev ad)))
  rw [ro_c]
  have hft := (hw.2.2.1 (i : Int) (by omega) (by omega) (by omega) k (by rw [h9, show 10 + ci - 10 = ci by omega]; exact hk))
  rw [h9, show 10 + ci - 10 = ci by omega] at hft
  obtain ⟨e1, e2⟩ := fv_l (ad := ad) (F := F) (R := R) (a := (i : Int)) (k := k) hts2
  refine va_get (D := D) hx hb hts (lay_ok ci hc) hown hK hP i he (vw_at ci hc) k hk (hts _ hlk) (fun _ q => q) (v := fv ad (tTy ci k) F R i k) (rng_at hk) hd ?_
  rw [e1]
  exact h hw hl (wfL_c.mpr ⟨hft.2.1 e2, (wfL_c.mp hs).2⟩) hlg hn h1 h2 h3 h4 h5 ad H locs lsC hA hP hD hS hLV

theorem sim_36 (hF : FXz p s m args meth c D cA ev base L xs mi) {fin : Bool} (hd : okFld mi pc cp wi a y (.getfield cp) [2] fin = true) (hh : pA st fun o r => Y.1 o = a ∧ ∃ q, R o y = q ∧ SK p l e Rm s m args below meth c Qf D cA ev base LG ad0 N0 c0 s0 mc ms (pc + 3) ls ((2, q) :: r) F A R Y) : SK p l e Rm s m args below meth c Qf D cA ev base LG ad0 N0 c0 s0 mc ms pc ls st F A R Y := by
  intro hw hl hs hlg hn h1 h2 h3 h4 h5 ad H locs lsC hA hP hD hS hLV
  obtain ⟨hx, hb, hml, hown, hts, hK, hbs, hin, hFG⟩ := hF
  obtain ⟨x, r, rfl, h9, h⟩ := pA_e hh
  obtain ⟨ci, k, rfl, hc, rfl, hk, hd, hlk, hts2, -⟩ := okFld_s hd
  obtain ⟨i, rfl, hi⟩ := wf_obj hw h9 (by omega)
  obtain ⟨q, rfl, h⟩ := h
  have he := wld_at (cA := cA) (ad := ad) (F := F) (A := A) (R := R) hi
  rw [ce_o h9] at he
  show W p l e Rm s m args below meth c H locs (Y.2.2.2.1 - c0) (Y.2.2.2.2 - s0) Qf (F0 m pc lsC (va_rf (ro ad (i : Int)) :: r.map (cz ev ad)))
  rw [ro_c]
  have hft := (hw.2.2.1 (i : Int) (by omega) (by omega) (by omega) k (by rw [h9, show 10 + ci - 10 = ci by omega]; exact hk))
  rw [h9, show 10 + ci - 10 = ci by omega] at hft
  obtain ⟨e1, e2⟩ := fv_r (ad := ad) (F := F) (R := R) (a := (i : Int)) (k := k) hts2
  refine va_get (D := D) hx hb hts (lay_ok ci hc) hown hK hP i he (vw_at ci hc) k hk (hts _ hlk) (fun _ q => q) (v := fv ad (tTy ci k) F R i k) (rng_at hk) hd ?_
  rw [e1]
  exact h hw hl (wfL_c.mpr ⟨hft.2.2 e2, (wfL_c.mp hs).2⟩) hlg hn h1 h2 h3 h4 h5 ad H locs lsC hA hP hD hS hLV

end SIM
