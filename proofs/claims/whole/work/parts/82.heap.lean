/-! FIELDS AND ARRAYS -/
theorem vw_at : ∀ ci : Nat, ci < 12 → vwCl[ci]? = some (tR ci, tF ci, nfOf ci) := by
  intro ci h
  match ci, h with
  | 0, _ => rfl
  | 1, _ => rfl
  | 2, _ => rfl
  | 3, _ => rfl
  | 4, _ => rfl
  | 5, _ => rfl
  | 6, _ => rfl
  | 7, _ => rfl
  | 8, _ => rfl
  | 9, _ => rfl
  | 10, _ => rfl
  | 11, _ => rfl
  | k + 12, h => exact absurd h (by omega)
theorem ty_ok : ∀ ci : Nat, ci < 12 → ∀ k, k < nfOf ci → parseFieldDescriptor (tF ci k).2.2.1 = some (tTy ci k) := by
  intro ci h
  match ci, h with
  | 0, _ => exact tyX0_ok
  | 1, _ => exact tyX1_ok
  | 2, _ => exact tyX2_ok
  | 3, _ => exact tyX3_ok
  | 4, _ => exact tyX4_ok
  | 5, _ => exact tyX5_ok
  | 6, _ => exact tyX6_ok
  | 7, _ => exact tyX7_ok
  | 8, _ => exact tyX8_ok
  | 9, _ => exact tyX9_ok
  | 10, _ => exact tyX10_ok
  | 11, _ => exact tyX11_ok
  | k + 12, h => exact absurd h (by omega)
theorem nm_ok : ∀ ci : Nat, ci < 12 → ∀ a, a < nfOf ci → ∀ b, b < nfOf ci → a ≠ b → (tF ci a).2.1 ≠ (tF ci b).2.1 := by
  intro ci h
  match ci, h with
  | 0, _ => exact nmX0
  | 1, _ => exact nmX1
  | 2, _ => exact nmX2
  | 3, _ => exact nmX3
  | 4, _ => exact nmX4
  | 5, _ => exact nmX5
  | 6, _ => exact nmX6
  | 7, _ => exact nmX7
  | 8, _ => exact nmX8
  | 9, _ => exact nmX9
  | 10, _ => exact nmX10
  | 11, _ => exact nmX11
  | k + 12, h => exact absurd h (by omega)
theorem inGW {ws : List Cond} (ps : List Nat) (hp : ws = ps.filterMap (fun i => lw_tbl[i]?)) (h : ws.all goodWord = true) : ∀ w ∈ ws, w ∈ GW := by
  intro w hw
  have h1 := List.all_eq_true.mp h w hw
  rw [hp] at hw
  obtain ⟨i, -, hi⟩ := List.mem_filterMap.mp hw
  exact wG (List.mem_of_getElem? hi) h1
theorem lay_0 : ∀ w ∈ u_ws RX0 TX0 13, w ∈ GW := inGW [448, 450, 452, 454, 456, 458, 460, 462, 464, 466, 468, 470, 472] (by decide +kernel) (by decide +kernel)
theorem lay_1 : ∀ w ∈ u_ws RX1 TX1 9, w ∈ GW := inGW [524, 526, 528, 530, 532, 534, 536, 538, 540] (by decide +kernel) (by decide +kernel)
theorem lay_2 : ∀ w ∈ u_ws RX2 TX2 19, w ∈ GW := inGW [318, 320, 322, 324, 326, 328, 330, 332, 334, 336, 338, 340, 342, 344, 346, 348, 350, 352, 354] (by decide +kernel) (by decide +kernel)
theorem lay_3 : ∀ w ∈ u_ws RX3 TX3 7, w ∈ GW := inGW [252, 254, 256, 258, 260, 262, 264] (by decide +kernel) (by decide +kernel)
theorem lay_4 : ∀ w ∈ u_ws RX4 TX4 5, w ∈ GW := inGW [488, 490, 492, 494, 496] (by decide +kernel) (by decide +kernel)
theorem lay_5 : ∀ w ∈ u_ws RX5 TX5 4, w ∈ GW := inGW [386, 388, 390, 392] (by decide +kernel) (by decide +kernel)
theorem lay_6 : ∀ w ∈ u_ws RX6 TX6 6, w ∈ GW := inGW [412, 414, 416, 418, 420, 422] (by decide +kernel) (by decide +kernel)
theorem lay_7 : ∀ w ∈ u_ws RX7 TX7 13, w ∈ GW := inGW [210, 212, 214, 216, 218, 220, 222, 224, 226, 228, 230, 232, 234] (by decide +kernel) (by decide +kernel)
theorem lay_8 : ∀ w ∈ u_ws RX8 TX8 9, w ∈ GW := inGW [150, 152, 154, 156, 158, 160, 162, 164, 166] (by decide +kernel) (by decide +kernel)
theorem lay_9 : ∀ w ∈ u_ws RX9 TX9 4, w ∈ GW := inGW [363, 365, 367, 369] (by decide +kernel) (by decide +kernel)
theorem lay_10 : ∀ w ∈ u_ws RX10 TX10 19, w ∈ GW := inGW [562, 564, 566, 568, 570, 572, 574, 576, 578, 580, 582, 584, 586, 588, 590, 592, 594, 596, 598] (by decide +kernel) (by decide +kernel)
theorem lay_11 : ∀ w ∈ u_ws RX11 TX11 89, w ∈ GW := inGW [1296, 1298, 1300, 1302, 1304, 1306, 1308, 1310, 1312, 1314, 1316, 1318, 1320, 1322, 1324, 1326, 1328, 1330, 1332, 1334, 1336, 1338, 1340, 1342, 1344, 1346, 1348, 1350, 1352, 1354, 1356, 1358, 1360, 1362, 1364, 1366, 1368, 1370, 1372, 1374, 1376, 1378, 1380, 1382, 1384, 1386, 1388, 1390, 1392, 1394, 1396, 1398, 1400, 1402, 1404, 1406, 1408, 1410, 1412, 1414, 1416, 1418, 1420, 1422, 1424, 1426, 1428, 1430, 1432, 1434, 1436, 1438, 1440, 1442, 1444, 1446, 1448, 1450, 1452, 1454, 1456, 1458, 1460, 1462, 1464, 1466, 1468, 1470, 1472] (by decide +kernel) (by decide +kernel)
theorem lay_ok : ∀ ci : Nat, ci < 12 → ∀ w ∈ u_ws (tR ci) (tF ci) (nfOf ci), w ∈ GW := by
  intro ci h
  match ci, h with
  | 0, _ => exact lay_0
  | 1, _ => exact lay_1
  | 2, _ => exact lay_2
  | 3, _ => exact lay_3
  | 4, _ => exact lay_4
  | 5, _ => exact lay_5
  | 6, _ => exact lay_6
  | 7, _ => exact lay_7
  | 8, _ => exact lay_8
  | 9, _ => exact lay_9
  | 10, _ => exact lay_10
  | 11, _ => exact lay_11
  | k + 12, h => exact absurd h (by omega)
theorem fv_i {ad : Nat → Nat} {t : FieldType} {F R : Fn2} {a : Int} {k : Nat} (h : kOf t ∈ [0, 1]) : fv ad t F R a k = .int (Int32.ofInt (F a k)) ∧ tyK t = 0 := by
  cases t <;> first | exact ⟨rfl, rfl⟩ | (simp [kOf] at h)
theorem fv_l {ad : Nat → Nat} {t : FieldType} {F R : Fn2} {a : Int} {k : Nat} (h : kOf t ∈ [3]) : fv ad t F R a k = .long (Int64.ofInt (F a k)) ∧ tyK t = 1 := by
  cases t <;> first | exact ⟨rfl, rfl⟩ | (simp [kOf] at h)
theorem fv_r {ad : Nat → Nat} {t : FieldType} {F R : Fn2} {a : Int} {k : Nat} (h : kOf t ∈ [2]) : fv ad t F R a k = va_rf (ro ad (R a k)) ∧ tyK t = 2 := by
  cases t <;> first | exact ⟨rfl, rfl⟩ | (simp [kOf] at h)
theorem okFld_s {m pc cp wi c : Nat} {k : Int} {i : Jvm.ClassFile.Instr} {ts : List Nat} {fin : Bool} (h : okFld m pc cp wi c k i ts fin = true) : ∃ ci kk : Nat, c = 10 + ci ∧ ci < 12 ∧ k = (kk : Int) ∧ kk < nfOf ci ∧ decode (byOf m) pc = .ok (i, 3) ∧ Cond.fieldLink (nmOf m).cls cp (tF ci kk).1 (tF ci kk).2.1 (tF ci kk).2.2.1 ∈ GW ∧ kOf (tTy ci kk) ∈ ts ∧ (tF ci kk).2.2.2 = fin := by
  unfold okFld at h
  simp only [Bool.and_eq_true, decide_eq_true_eq] at h
  obtain ⟨h1, ⟨h2, h2'⟩, ⟨h3, h3'⟩, h4, h5, h6⟩ := h
  refine ⟨c - 10, k.toNat, by omega, by omega, by omega, h3', dk h1, wG (wd h4) rfl, h5, h6⟩
theorem wf_obj {F A R : Fn2} {Y : Yy} (hw : wfS F A R Y) {x : Int} {kd : Nat} (h : Y.1 x = kd) (hk : kd ≠ 99) : ∃ i : Nat, x = (i : Int) ∧ i < Y.2.2.1 := by
  by_cases h0 : 0 ≤ x ∧ x < Y.2.2.1
  · exact ⟨x.toNat, by omega, by omega⟩
  · exact absurd (h ▸ hw.1 x h0) hk
theorem ce_o {cA : Nat → ClassId} {ad : Nat → Nat} {F A R : Fn2} {Y : Yy} {i ci : Nat} (h : Y.1 (i : Int) = 10 + ci) : ce cA ad F A R Y i = .inr (ci, (List.range (nfOf ci)).map (fun k => fv ad (tTy ci k) F R i k)) := by
  unfold ce; rw [h, if_pos (by omega), show 10 + ci - 10 = ci by omega]
theorem ce_a {cA : Nat → ClassId} {ad : Nat → Nat} {F A R : Fn2} {Y : Yy} {i kd : Nat} (h : Y.1 (i : Int) = kd) (hk : kd < 10) : ce cA ad F A R Y i = .inl (cA kd, (Y.2.1 (i : Int)).toNat, ar ad kd A R i) := by
  unfold ce; rw [h, if_neg (by omega)]
theorem rng_at {α : Type} {f : Nat → α} {n k : Nat} (h : k < n) : ((List.range n).map f)[k]? = some (f k) := by
  rw [List.getElem?_map, List.getElem?_range h]; rfl
theorem ro_c {ad : Nat → Nat} {i : Nat} : va_rf (ro ad (i : Int)) = .ref (ad i) := by
  unfold ro; rw [if_neg (by omega)]; rfl
section SIM
variable {p : Program} {l : Launch} {e : Env} {Rm : Room} {s : State} {m : MethodId} {args : Array Value} {below : List Frame} {meth : Method} {c : Code} {Qf : State → Prop} {D : va_G} {cA : Nat → ClassId} {ev : Ev} {base : Nat} {LG : List Nat} {ad0 : Nat → Nat} {N0 c0 s0 mc ms : Nat} {L : Int} {xs : Int → Int} {mi pc len cp wi a b : Nat} {y z : Int} {ls st : List Vv} {F A R : Fn2} {Y : Yy}
theorem sim_35 (hF : FXz p s m args meth c D cA ev base L xs mi) {fin : Bool} (hd : okFld mi pc cp wi a y (.getfield cp) [0, 1] fin = true) (hh : pA st fun o r => Y.1 o = a ∧ SK p l e Rm s m args below meth c Qf D cA ev base LG ad0 N0 c0 s0 mc ms (pc + 3) ls ((0, F o y) :: r) F A R Y) : SK p l e Rm s m args below meth c Qf D cA ev base LG ad0 N0 c0 s0 mc ms pc ls st F A R Y := by
  intro hw hl hs hlg hn h1 h2 h3 h4 h5 ad H locs lsC hA hP hD hS hLV
  obtain ⟨hx, hb, hml, hown, hts, hK, hbs, hin, hFG⟩ := hF
  obtain ⟨x, r, rfl, h9, h⟩ := pA_e hh
  obtain ⟨ci, k, rfl, hc, rfl, hk, hd, hlk, hts2, -⟩ := okFld_s hd
  obtain ⟨i, rfl, hi⟩ := wf_obj hw h9 (by omega)
  have he := wld_at (cA := cA) (ad := ad) (F := F) (A := A) (R := R) hi
  rw [ce_o h9] at he
  show W p l e Rm s m args below meth c H locs (Y.2.2.2.1 - c0) (Y.2.2.2.2 - s0) Qf (F0 m pc lsC (va_rf (ro ad (i : Int)) :: r.map (cz ev ad)))
  rw [ro_c]
  have hft := (hw.2.2.1 (i : Int) (by omega) (by omega) (by omega) k (by rw [h9, show 10 + ci - 10 = ci by omega]; exact hk))
  rw [h9, show 10 + ci - 10 = ci by omega] at hft
  obtain ⟨e1, e2⟩ := fv_i (ad := ad) (F := F) (R := R) (a := (i : Int)) (k := k) hts2
  refine va_get (D := D) hx hb hts (lay_ok ci hc) hown hK hP i he (vw_at ci hc) k hk (hts _ hlk) (fun _ q => q) (v := fv ad (tTy ci k) F R i k) (rng_at hk) hd ?_
  rw [e1]
  exact h hw hl (wfL_c.mpr ⟨hft.1 e2, (wfL_c.mp hs).2⟩) hlg hn h1 h2 h3 h4 h5 ad H locs lsC hA hP hD hS hLV

theorem sim_37 (hF : FXz p s m args meth c D cA ev base L xs mi) {fin : Bool} (hd : okFld mi pc cp wi a y (.getfield cp) [3] fin = true) (hh : pA st fun o r => Y.1 o = a ∧ SK p l e Rm s m args below meth c Qf D cA ev base LG ad0 N0 c0 s0 mc ms (pc + 3) ls ((1, F o y) :: r) F A R Y) : SK p l e Rm s m args below meth c Qf D cA ev base LG ad0 N0 c0 s0 mc ms pc ls st F A R Y := by
  intro hw hl hs hlg hn h1 h2 h3 h4 h5 ad H locs lsC hA hP hD hS hLV
  obtain ⟨hx, hb, hml, hown, hts, hK, hbs, hin, hFG⟩ := hF
  obtain ⟨x, r, rfl, h9, h⟩ := pA_e hh
  obtain ⟨ci, k, rfl, hc, rfl, hk, hd, hlk, hts2, -⟩ := okFld_s hd
  obtain ⟨i, rfl, hi⟩ := wf_obj hw h9 (by omega)
  have he := wld_at (cA := cA) (ad := ad) (F := F) (A := A) (R := R) hi
  rw [ce_o h9] at he
  show W p l e Rm s m args below meth c H locs (Y.2.2.2.1 - c0) (Y.2.2.2.2 - s0) Qf (F0 m pc lsC (va_rf (ro ad (i : Int)) :: r.map (cz ev ad)))
  rw [ro_c]
  have hft := (hw.2.2.1 (i : Int) (by omega) (by omega) (by omega) k (by rw [h9, show 10 + ci - 10 = ci by omega]; exact hk))
  rw [h9, show 10 + ci - 10 = ci by omega] at hft
  obtain ⟨e1, e2⟩ := fv_l (ad := ad) (F := F) (R := R) (a := (i : Int)) (k := k) hts2
  refine va_get (D := D) hx hb hts (lay_ok ci hc) hown hK hP i he (vw_at ci hc) k hk (hts _ hlk) (fun _ q => q) (v := fv ad (tTy ci k) F R i k) (rng_at hk) hd ?_
  rw [e1]
  exact h hw hl (wfL_c.mpr ⟨hft.2.1 e2, (wfL_c.mp hs).2⟩) hlg hn h1 h2 h3 h4 h5 ad H locs lsC hA hP hD hS hLV

theorem sim_36 (hF : FXz p s m args meth c D cA ev base L xs mi) {fin : Bool} (hd : okFld mi pc cp wi a y (.getfield cp) [2] fin = true) (hh : pA st fun o r => Y.1 o = a ∧ ∃ q, R o y = q ∧ SK p l e Rm s m args below meth c Qf D cA ev base LG ad0 N0 c0 s0 mc ms (pc + 3) ls ((2, q) :: r) F A R Y) : SK p l e Rm s m args below meth c Qf D cA ev base LG ad0 N0 c0 s0 mc ms pc ls st F A R Y := by
  intro hw hl hs hlg hn h1 h2 h3 h4 h5 ad H locs lsC hA hP hD hS hLV
  obtain ⟨hx, hb, hml, hown, hts, hK, hbs, hin, hFG⟩ := hF
  obtain ⟨x, r, rfl, h9, h⟩ := pA_e hh
  obtain ⟨ci, k, rfl, hc, rfl, hk, hd, hlk, hts2, -⟩ := okFld_s hd
  obtain ⟨i, rfl, hi⟩ := wf_obj hw h9 (by omega)
  obtain ⟨q, rfl, h⟩ := h
  have he := wld_at (cA := cA) (ad := ad) (F := F) (A := A) (R := R) hi
  rw [ce_o h9] at he
  show W p l e Rm s m args below meth c H locs (Y.2.2.2.1 - c0) (Y.2.2.2.2 - s0) Qf (F0 m pc lsC (va_rf (ro ad (i : Int)) :: r.map (cz ev ad)))
  rw [ro_c]
  have hft := (hw.2.2.1 (i : Int) (by omega) (by omega) (by omega) k (by rw [h9, show 10 + ci - 10 = ci by omega]; exact hk))
  rw [h9, show 10 + ci - 10 = ci by omega] at hft
  obtain ⟨e1, e2⟩ := fv_r (ad := ad) (F := F) (R := R) (a := (i : Int)) (k := k) hts2
  refine va_get (D := D) hx hb hts (lay_ok ci hc) hown hK hP i he (vw_at ci hc) k hk (hts _ hlk) (fun _ q => q) (v := fv ad (tTy ci k) F R i k) (rng_at hk) hd ?_
  rw [e1]
  exact h hw hl (wfL_c.mpr ⟨hft.2.2 e2, (wfL_c.mp hs).2⟩) hlg hn h1 h2 h3 h4 h5 ad H locs lsC hA hP hD hS hLV

end SIM
