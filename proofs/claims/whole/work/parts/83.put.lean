/-! WRITES -/
theorem st2_at {M : Fn2} {a i v x j : Int} : st2 M a i v x j = if x = a ∧ j = i then v else M x j := by
  unfold st2 up2 u1
  by_cases h : x = a
  · subst h; by_cases h2 : j = i <;> simp [h2]
  · simp [h]
theorem set_rng {α : Type} {f g : Nat → α} {n k : Nat} {x : α} (h : g k = x) (hj : ∀ j, j < n → j ≠ k → g j = f j) : ((List.range n).map f).set k x = (List.range n).map g := by
  apply List.ext_getElem?
  intro j
  by_cases hl : j < n
  · by_cases e : j = k
    · subst e
      rw [List.getElem?_set_self (by rw [List.length_map, List.length_range]; exact hl), rng_at hl, h]
    · rw [List.getElem?_set_ne (Ne.symm e), rng_at hl, rng_at hl, hj j hl e]
  · rw [List.getElem?_eq_none (by rw [List.length_set, List.length_map, List.length_range]; omega), List.getElem?_eq_none (by rw [List.length_map, List.length_range]; omega)]
theorem fv_cg {ad : Nat → Nat} {t : FieldType} {F R F' R' : Fn2} {a : Int} {k : Nat} (h1 : F' a k = F a k) (h2 : R' a k = R a k) : fv ad t F' R' a k = fv ad t F R a k := by
  unfold fv; rw [h1, h2]
theorem ce_cg {cA : Nat → ClassId} {ad : Nat → Nat} {F A R F' A' R' : Fn2} {Y : Yy} {j : Nat} (h1 : F' (j : Int) = F j) (h2 : A' (j : Int) = A j) (h3 : R' (j : Int) = R j) : ce cA ad F' A' R' Y j = ce cA ad F A R Y j := by
  unfold ce
  have e1 : (fun k => fv ad (tTy (Y.1 (j : Int) - 10) k) F' R' j k) = (fun k => fv ad (tTy (Y.1 (j : Int) - 10) k) F R j k) := funext fun k => fv_cg (by rw [h1]) (by rw [h3])
  rw [e1]
  have e2 : ar ad (Y.1 (j : Int)) A' R' j = ar ad (Y.1 (j : Int)) A R j := by unfold ar; rw [h2, h3]
  rw [e2]
theorem wf_F {F A R : Fn2} {Y : Yy} (hw : wfS F A R Y) {i ci k : Nat} {v : Int} (h9 : Y.1 (i : Int) = 10 + ci) (h0 : tyK (tTy ci k) = 0 → R32 v) (h1 : tyK (tTy ci k) = 1 → R64 v) : wfS (st2 F i k v) A R Y := by
  refine ⟨hw.1, hw.2.1, fun a ha hb hk j hj => ?_, hw.2.2.2.1, hw.2.2.2.2⟩
  have q := hw.2.2.1 a ha hb hk j hj
  rw [st2_at]
  by_cases e : a = (i : Int) ∧ (j : Int) = (k : Int)
  · rw [if_pos e]
    obtain ⟨e1, e2⟩ := e
    have e3 : j = k := by omega
    subst e1; subst e3
    rw [h9, show 10 + ci - 10 = ci by omega] at q ⊢
    exact ⟨h0, h1, q.2.2⟩
  · rw [if_neg e]; exact q
theorem wf_R {F A R : Fn2} {Y : Yy} (hw : wfS F A R Y) {a0 j0 v : Int} (h0 : -1 ≤ v ∧ v < Y.2.2.1) : wfS F A (st2 R a0 j0 v) Y := by
  refine ⟨hw.1, hw.2.1, fun a ha hb hk j hj => ?_, fun a ha hb hk j hj hj2 => ?_, fun a ha hb hk hk2 j => ?_⟩
  · have q := hw.2.2.1 a ha hb hk j hj
    rw [st2_at]
    by_cases e : a = a0 ∧ (j : Int) = j0
    · rw [if_pos e]; exact ⟨q.1, q.2.1, fun _ => h0⟩
    · rw [if_neg e]; exact q
  · have q := hw.2.2.2.1 a ha hb hk j hj hj2
    rw [st2_at]
    by_cases e : a = a0 ∧ j = j0
    · rw [if_pos e]; exact ⟨q.1, q.2.1, fun _ => h0⟩
    · rw [if_neg e]; exact q
  · have q := hw.2.2.2.2 a ha hb hk hk2 j
    rw [st2_at]
    by_cases e : a = a0 ∧ j = j0
    · rw [if_pos e]; exact h0
    · rw [if_neg e]; exact q
theorem wf_A {F A A' R : Fn2} {Y : Yy} (hw : wfS F A R Y) {a0 : Int} (ho : ∀ a, a ≠ a0 → A' a = A a) (h0 : ∀ j, 0 ≤ j → j < Y.2.1 a0 → (Y.1 a0 ≤ 2 → R32 (A' a0 j)) ∧ (Y.1 a0 = 3 → R64 (A' a0 j))) : wfS F A' R Y := by
  refine ⟨hw.1, hw.2.1, hw.2.2.1, fun a ha hb hk j hj hj2 => ?_, hw.2.2.2.2⟩
  have q := hw.2.2.2.1 a ha hb hk j hj hj2
  by_cases e : a = a0
  · subst e; exact ⟨(h0 j hj hj2).1, (h0 j hj hj2).2, q.2.2⟩
  · rw [ho a e]; exact q
theorem nar_b {v : Int} (h0 : 0 ≤ v) (h1 : v ≤ 1) : narrow .boolean (.int (Int32.ofInt v)) = .int (Int32.ofInt v) ∧ fits .boolean (.int (Int32.ofInt v)) = true := by
  rcases (show v = 0 ∨ v = 1 by omega) with rfl | rfl <;> exact ⟨by decide +kernel, by decide +kernel⟩
theorem ro_rf {ad : Nat → Nat} {v : Int} : va_rf (ro ad v) = .null ∨ ∃ x, va_rf (ro ad v) = .ref x := cz_ref (ev := ((fun _ => 0), (fun _ => 0), 0, .null)) (ad := ad) (v := v)
theorem nar_r {t : FieldType} (h : isRf t = true) {ad : Nat → Nat} {v : Int} : narrow t (va_rf (ro ad v)) = va_rf (ro ad v) ∧ fits t (va_rf (ro ad v)) = true := by
  rcases ro_rf (ad := ad) (v := v) with q | ⟨x, q⟩ <;> rw [q] <;> cases t <;> first | exact ⟨rfl, rfl⟩ | (simp [isRf] at h)
section SIM
variable {p : Program} {l : Launch} {e : Env} {Rm : Room} {s : State} {m : MethodId} {args : Array Value} {below : List Frame} {meth : Method} {c : Code} {Qf : State → Prop} {D : va_G} {cA : Nat → ClassId} {ev : Ev} {base : Nat} {LG : List Nat} {ad0 : Nat → Nat} {N0 c0 s0 mc ms : Nat} {L : Int} {xs : Int → Int} {mi pc len cp wi a b : Nat} {y z : Int} {ls st : List Vv} {F A R : Fn2} {Y : Yy}
theorem kOf_i {t : FieldType} (h : kOf t ∈ [0]) : t = .int := by
  cases t <;> first | rfl | (simp [kOf] at h)
theorem kOf_b {t : FieldType} (h : kOf t ∈ [1]) : t = .boolean := by
  cases t <;> first | rfl | (simp [kOf] at h)
theorem kOf_l {t : FieldType} (h : kOf t ∈ [3]) : t = .long := by
  cases t <;> first | rfl | (simp [kOf] at h)
theorem sim_38 (hF : FXz p s m args meth c D cA ev base L xs mi) (hd : okFld mi pc cp wi a y (.putfield cp) [0] false = true) (hh : pI st fun v r => pA r fun o r => Y.1 o = a ∧ SK p l e Rm s m args below meth c Qf D cA ev base LG ad0 N0 c0 s0 mc ms (pc + 3) ls r (st2 F o y v) A R Y) : SK p l e Rm s m args below meth c Qf D cA ev base LG ad0 N0 c0 s0 mc ms pc ls st F A R Y := by
  intro hw hl hs hlg hn h1 h2 h3 h4 h5 ad H locs lsC hA hP hD hS hLV
  obtain ⟨hx, hb, hml, hown, hts, hK, hbs, hin, hFG⟩ := hF
  obtain ⟨v, r1, rfl, k1⟩ := pI_e hh
  obtain ⟨x, r, rfl, h9, h⟩ := pA_e k1
  obtain ⟨ci, k, rfl, hc, rfl, hk, hd, hlk, hts2, hfin⟩ := okFld_s hd
  obtain ⟨i, rfl, hi⟩ := wf_obj hw h9 (by omega)
  have he := wld_at (cA := cA) (ad := ad) (F := F) (A := A) (R := R) hi
  rw [ce_o h9] at he
  show W p l e Rm s m args below meth c H locs (Y.2.2.2.1 - c0) (Y.2.2.2.2 - s0) Qf (F0 m pc lsC (.int (Int32.ofInt v) :: va_rf (ro ad (i : Int)) :: r.map (cz ev ad)))
  rw [ro_c]
  have ht : tTy ci k = .int := kOf_i hts2
  have hnf : narrow (tTy ci k) (.int (Int32.ofInt v)) = .int (Int32.ofInt v) ∧ fits (tTy ci k) (.int (Int32.ofInt v)) = true := by rw [ht]; exact ⟨rfl, rfl⟩
  have hset : (wld cA ad F A R Y).set i (ad i, .inr (ci, ((List.range (nfOf ci)).map (fun k => fv ad (tTy ci k) F R i k)).set k (.int (Int32.ofInt v)))) = wld cA ad (st2 F i k v) A R Y :=
    wld_set hi (by rw [ce_o h9]; exact congrArg (fun q => (Sum.inr (ci, q) : va_E)) ((set_rng (by rw [ht]; show Value.int (Int32.ofInt _) = _; rw [st2_at, if_pos ⟨rfl, rfl⟩]) (fun j _ hj => fv_cg (by rw [st2_at, if_neg (fun z => hj (by omega))]) rfl)).symm)) (fun j hj => ce_cg (funext fun q => by rw [st2_at, if_neg (fun z => hj (by omega))]) rfl rfl)
  refine va_put (D := D) hx hb hts (lay_ok ci hc) (tTy ci) (ty_ok ci hc) (nm_ok ci hc) hown hK hP hD hS i he (vw_at ci hc) k hk (hts _ hlk) (fun _ q => q) hfin (ty_ok ci hc k hk) hnf.1 hnf.2 (by rw [List.length_map, List.length_range]; exact hk) hd (fun H1 locs1 hP1 hD1 hS1 => ?_)
  rw [hset] at hP1 hD1
  exact h (wf_F hw h9 (fun _ => (wfL_c.mp hs).1) (fun q => by rw [ht] at q; cases q)) hl (wfL_c.mp (wfL_c.mp hs).2).2 hlg hn h1 h2 h3 h4 h5 ad H1 locs1 lsC hA hP1 hD1 hS1 hLV

theorem sim_39 (hF : FXz p s m args meth c D cA ev base L xs mi) (hd : okFld mi pc cp wi a y (.putfield cp) [1] false = true) (hh : pI st fun v r => pA r fun o r => Y.1 o = a ∧ 0 ≤ v ∧ v ≤ 1 ∧ SK p l e Rm s m args below meth c Qf D cA ev base LG ad0 N0 c0 s0 mc ms (pc + 3) ls r (st2 F o y v) A R Y) : SK p l e Rm s m args below meth c Qf D cA ev base LG ad0 N0 c0 s0 mc ms pc ls st F A R Y := by
  intro hw hl hs hlg hn h1 h2 h3 h4 h5 ad H locs lsC hA hP hD hS hLV
  obtain ⟨hx, hb, hml, hown, hts, hK, hbs, hin, hFG⟩ := hF
  obtain ⟨v, r1, rfl, k1⟩ := pI_e hh
  obtain ⟨x, r, rfl, h9, g0, g1, h⟩ := pA_e k1
  obtain ⟨ci, k, rfl, hc, rfl, hk, hd, hlk, hts2, hfin⟩ := okFld_s hd
  obtain ⟨i, rfl, hi⟩ := wf_obj hw h9 (by omega)
  have he := wld_at (cA := cA) (ad := ad) (F := F) (A := A) (R := R) hi
  rw [ce_o h9] at he
  show W p l e Rm s m args below meth c H locs (Y.2.2.2.1 - c0) (Y.2.2.2.2 - s0) Qf (F0 m pc lsC (.int (Int32.ofInt v) :: va_rf (ro ad (i : Int)) :: r.map (cz ev ad)))
  rw [ro_c]
  have ht : tTy ci k = .boolean := kOf_b hts2
  have hnf : narrow (tTy ci k) (.int (Int32.ofInt v)) = .int (Int32.ofInt v) ∧ fits (tTy ci k) (.int (Int32.ofInt v)) = true := by rw [ht]; exact nar_b g0 g1
  have hset : (wld cA ad F A R Y).set i (ad i, .inr (ci, ((List.range (nfOf ci)).map (fun k => fv ad (tTy ci k) F R i k)).set k (.int (Int32.ofInt v)))) = wld cA ad (st2 F i k v) A R Y :=
    wld_set hi (by rw [ce_o h9]; exact congrArg (fun q => (Sum.inr (ci, q) : va_E)) ((set_rng (by rw [ht]; show Value.int (Int32.ofInt _) = _; rw [st2_at, if_pos ⟨rfl, rfl⟩]) (fun j _ hj => fv_cg (by rw [st2_at, if_neg (fun z => hj (by omega))]) rfl)).symm)) (fun j hj => ce_cg (funext fun q => by rw [st2_at, if_neg (fun z => hj (by omega))]) rfl rfl)
  refine va_put (D := D) hx hb hts (lay_ok ci hc) (tTy ci) (ty_ok ci hc) (nm_ok ci hc) hown hK hP hD hS i he (vw_at ci hc) k hk (hts _ hlk) (fun _ q => q) hfin (ty_ok ci hc k hk) hnf.1 hnf.2 (by rw [List.length_map, List.length_range]; exact hk) hd (fun H1 locs1 hP1 hD1 hS1 => ?_)
  rw [hset] at hP1 hD1
  exact h (wf_F hw h9 (fun _ => (wfL_c.mp hs).1) (fun q => by rw [ht] at q; cases q)) hl (wfL_c.mp (wfL_c.mp hs).2).2 hlg hn h1 h2 h3 h4 h5 ad H1 locs1 lsC hA hP1 hD1 hS1 hLV

theorem sim_41 (hF : FXz p s m args meth c D cA ev base L xs mi) (hd : okFld mi pc cp wi a y (.putfield cp) [3] false = true) (hh : pL st fun v r => pA r fun o r => Y.1 o = a ∧ SK p l e Rm s m args below meth c Qf D cA ev base LG ad0 N0 c0 s0 mc ms (pc + 3) ls r (st2 F o y v) A R Y) : SK p l e Rm s m args below meth c Qf D cA ev base LG ad0 N0 c0 s0 mc ms pc ls st F A R Y := by
  intro hw hl hs hlg hn h1 h2 h3 h4 h5 ad H locs lsC hA hP hD hS hLV
  obtain ⟨hx, hb, hml, hown, hts, hK, hbs, hin, hFG⟩ := hF
  obtain ⟨v, r1, rfl, k1⟩ := pL_e hh
  obtain ⟨x, r, rfl, h9, h⟩ := pA_e k1
  obtain ⟨ci, k, rfl, hc, rfl, hk, hd, hlk, hts2, hfin⟩ := okFld_s hd
  obtain ⟨i, rfl, hi⟩ := wf_obj hw h9 (by omega)
  have he := wld_at (cA := cA) (ad := ad) (F := F) (A := A) (R := R) hi
  rw [ce_o h9] at he
  show W p l e Rm s m args below meth c H locs (Y.2.2.2.1 - c0) (Y.2.2.2.2 - s0) Qf (F0 m pc lsC (.long (Int64.ofInt v) :: va_rf (ro ad (i : Int)) :: r.map (cz ev ad)))
  rw [ro_c]
  have ht : tTy ci k = .long := kOf_l hts2
  have hnf : narrow (tTy ci k) (.long (Int64.ofInt v)) = .long (Int64.ofInt v) ∧ fits (tTy ci k) (.long (Int64.ofInt v)) = true := by rw [ht]; exact ⟨rfl, rfl⟩
  have hset : (wld cA ad F A R Y).set i (ad i, .inr (ci, ((List.range (nfOf ci)).map (fun k => fv ad (tTy ci k) F R i k)).set k (.long (Int64.ofInt v)))) = wld cA ad (st2 F i k v) A R Y :=
    wld_set hi (by rw [ce_o h9]; exact congrArg (fun q => (Sum.inr (ci, q) : va_E)) ((set_rng (by rw [ht]; show Value.long (Int64.ofInt _) = _; rw [st2_at, if_pos ⟨rfl, rfl⟩]) (fun j _ hj => fv_cg (by rw [st2_at, if_neg (fun z => hj (by omega))]) rfl)).symm)) (fun j hj => ce_cg (funext fun q => by rw [st2_at, if_neg (fun z => hj (by omega))]) rfl rfl)
  refine va_put (D := D) hx hb hts (lay_ok ci hc) (tTy ci) (ty_ok ci hc) (nm_ok ci hc) hown hK hP hD hS i he (vw_at ci hc) k hk (hts _ hlk) (fun _ q => q) hfin (ty_ok ci hc k hk) hnf.1 hnf.2 (by rw [List.length_map, List.length_range]; exact hk) hd (fun H1 locs1 hP1 hD1 hS1 => ?_)
  rw [hset] at hP1 hD1
  exact h (wf_F hw h9 (fun q => by rw [ht] at q; cases q) (fun _ => (wfL_c.mp hs).1)) hl (wfL_c.mp (wfL_c.mp hs).2).2 hlg hn h1 h2 h3 h4 h5 ad H1 locs1 lsC hA hP1 hD1 hS1 hLV

theorem sim_40 (hF : FXz p s m args meth c D cA ev base L xs mi) (hd : okFld mi pc cp wi a y (.putfield cp) [2] false = true) (hrf : isRf (tTy (a - 10) y.toNat) = true) (hh : pA st fun v r => pA r fun o r => Y.1 o = a ∧ SK p l e Rm s m args below meth c Qf D cA ev base LG ad0 N0 c0 s0 mc ms (pc + 3) ls r F A (st2 R o y v) Y) : SK p l e Rm s m args below meth c Qf D cA ev base LG ad0 N0 c0 s0 mc ms pc ls st F A R Y := by
  intro hw hl hs hlg hn h1 h2 h3 h4 h5 ad H locs lsC hA hP hD hS hLV
  obtain ⟨hx, hb, hml, hown, hts, hK, hbs, hin, hFG⟩ := hF
  obtain ⟨v, r1, rfl, k1⟩ := pA_e hh
  obtain ⟨x, r, rfl, h9, h⟩ := pA_e k1
  obtain ⟨ci, k, rfl, hc, rfl, hk, hd, hlk, hts2, hfin⟩ := okFld_s hd
  obtain ⟨i, rfl, hi⟩ := wf_obj hw h9 (by omega)
  rw [show 10 + ci - 10 = ci by omega, Int.toNat_natCast] at hrf
  have he := wld_at (cA := cA) (ad := ad) (F := F) (A := A) (R := R) hi
  rw [ce_o h9] at he
  show W p l e Rm s m args below meth c H locs (Y.2.2.2.1 - c0) (Y.2.2.2.2 - s0) Qf (F0 m pc lsC (va_rf (ro ad v) :: va_rf (ro ad (i : Int)) :: r.map (cz ev ad)))
  rw [ro_c]
  have hnf := nar_r hrf (ad := ad) (v := v)
  obtain ⟨-, ht⟩ := fv_r (ad := ad) (F := F) (R := R) (a := (i : Int)) (k := k) hts2
  have hset : (wld cA ad F A R Y).set i (ad i, .inr (ci, ((List.range (nfOf ci)).map (fun k => fv ad (tTy ci k) F R i k)).set k (va_rf (ro ad v)))) = wld cA ad F A (st2 R i k v) Y :=
    wld_set hi (by rw [ce_o h9]; exact congrArg (fun q => (Sum.inr (ci, q) : va_E)) ((set_rng (by rw [(fv_r (ad := ad) (F := F) (R := st2 R i k v) (a := (i : Int)) (k := k) hts2).1, st2_at, if_pos ⟨rfl, rfl⟩]) (fun j _ hj => fv_cg rfl (by rw [st2_at, if_neg (fun z => hj (by omega))]))).symm)) (fun j hj => ce_cg rfl rfl (funext fun q => by rw [st2_at, if_neg (fun z => hj (by omega))]))
  refine va_put (D := D) hx hb hts (lay_ok ci hc) (tTy ci) (ty_ok ci hc) (nm_ok ci hc) hown hK hP hD hS i he (vw_at ci hc) k hk (hts _ hlk) (fun _ q => q) hfin (ty_ok ci hc k hk) hnf.1 hnf.2 (by rw [List.length_map, List.length_range]; exact hk) hd (fun H1 locs1 hP1 hD1 hS1 => ?_)
  rw [hset] at hP1 hD1
  exact h (wf_R hw (wfL_c.mp hs).1) hl (wfL_c.mp (wfL_c.mp hs).2).2 hlg hn h1 h2 h3 h4 h5 ad H1 locs1 lsC hA hP1 hD1 hS1 hLV

theorem sim_44 (hF : FXz p s m args meth c D cA ev base L xs mi) (hd : okFld mi pc cp wi a y (.putfield cp) [2] true = true) (hrf : isRf (tTy (a - 10) y.toNat) = true) (hi0 : inOf mi = true) (hdc : (tF (a - 10) y.toNat).1 = (nmOf mi).cls) (hh : pA st fun v r => pA r fun o r => Y.1 o = a ∧ SK p l e Rm s m args below meth c Qf D cA ev base LG ad0 N0 c0 s0 mc ms (pc + 3) ls r F A (st2 R o y v) Y) : SK p l e Rm s m args below meth c Qf D cA ev base LG ad0 N0 c0 s0 mc ms pc ls st F A R Y := by
  intro hw hl hs hlg hn h1 h2 h3 h4 h5 ad H locs lsC hA hP hD hS hLV
  obtain ⟨hx, hb, hml, hown, hts, hK, hbs, hin, hFG⟩ := hF
  obtain ⟨v, r1, rfl, k1⟩ := pA_e hh
  obtain ⟨x, r, rfl, h9, h⟩ := pA_e k1
  obtain ⟨ci, k, rfl, hc, rfl, hk, hd, hlk, hts2, hfin⟩ := okFld_s hd
  obtain ⟨i, rfl, hi⟩ := wf_obj hw h9 (by omega)
  rw [show 10 + ci - 10 = ci by omega, Int.toNat_natCast] at hrf
  rw [show 10 + ci - 10 = ci by omega, Int.toNat_natCast] at hdc
  have he := wld_at (cA := cA) (ad := ad) (F := F) (A := A) (R := R) hi
  rw [ce_o h9] at he
  show W p l e Rm s m args below meth c H locs (Y.2.2.2.1 - c0) (Y.2.2.2.2 - s0) Qf (F0 m pc lsC (va_rf (ro ad v) :: va_rf (ro ad (i : Int)) :: r.map (cz ev ad)))
  rw [ro_c]
  have hnf := nar_r hrf (ad := ad) (v := v)
  obtain ⟨-, ht⟩ := fv_r (ad := ad) (F := F) (R := R) (a := (i : Int)) (k := k) hts2
  have hset : (wld cA ad F A R Y).set i (ad i, .inr (ci, ((List.range (nfOf ci)).map (fun k => fv ad (tTy ci k) F R i k)).set k (va_rf (ro ad v)))) = wld cA ad F A (st2 R i k v) Y :=
    wld_set hi (by rw [ce_o h9]; exact congrArg (fun q => (Sum.inr (ci, q) : va_E)) ((set_rng (by rw [(fv_r (ad := ad) (F := F) (R := st2 R i k v) (a := (i : Int)) (k := k) hts2).1, st2_at, if_pos ⟨rfl, rfl⟩]) (fun j _ hj => fv_cg rfl (by rw [st2_at, if_neg (fun z => hj (by omega))]))).symm)) (fun j hj => ce_cg rfl rfl (funext fun q => by rw [st2_at, if_neg (fun z => hj (by omega))]))
  refine va_putF (D := D) hx hb hts (lay_ok ci hc) (tTy ci) (ty_ok ci hc) (nm_ok ci hc) hown hK hP hD hS i he (vw_at ci hc) k hk (hts _ hlk) (fun _ q => q) hfin (hin hi0) hdc (ty_ok ci hc k hk) hnf.1 hnf.2 (by rw [List.length_map, List.length_range]; exact hk) hd (fun H1 locs1 hP1 hD1 hS1 => ?_)
  rw [hset] at hP1 hD1
  exact h (wf_R hw (wfL_c.mp hs).1) hl (wfL_c.mp (wfL_c.mp hs).2).2 hlg hn h1 h2 h3 h4 h5 ad H1 locs1 lsC hA hP1 hD1 hS1 hLV

end SIM
