/-! WHAT IS MADE; THE TEXTS -/
theorem gw_ini : ∀ ci : Nat, ci < 12 → Cond.initialized (tR ci) ∈ GW ∧ Cond.instantiable (tR ci) (nfOf ci) ∈ GW := by
  intro ci h
  match ci, h with
  | 0, _ => exact ⟨wG (List.mem_of_getElem? (i := 109) (by decide +kernel)) rfl, wG (List.mem_of_getElem? (i := 426) (by decide +kernel)) rfl⟩
  | 1, _ => exact ⟨wG (List.mem_of_getElem? (i := 111) (by decide +kernel)) rfl, wG (List.mem_of_getElem? (i := 499) (by decide +kernel)) rfl⟩
  | 2, _ => exact ⟨wG (List.mem_of_getElem? (i := 106) (by decide +kernel)) rfl, wG (List.mem_of_getElem? (i := 274) (by decide +kernel)) rfl⟩
  | 3, _ => exact ⟨wG (List.mem_of_getElem? (i := 104) (by decide +kernel)) rfl, wG (List.mem_of_getElem? (i := 239) (by decide +kernel)) rfl⟩
  | 4, _ => exact ⟨wG (List.mem_of_getElem? (i := 110) (by decide +kernel)) rfl, wG (List.mem_of_getElem? (i := 477) (by decide +kernel)) rfl⟩
  | 5, _ => exact ⟨wG (List.mem_of_getElem? (i := 107) (by decide +kernel)) rfl, wG (List.mem_of_getElem? (i := 373) (by decide +kernel)) rfl⟩
  | 6, _ => exact ⟨wG (List.mem_of_getElem? (i := 108) (by decide +kernel)) rfl, wG (List.mem_of_getElem? (i := 396) (by decide +kernel)) rfl⟩
  | 7, _ => exact ⟨wG (List.mem_of_getElem? (i := 103) (by decide +kernel)) rfl, wG (List.mem_of_getElem? (i := 173) (by decide +kernel)) rfl⟩
  | 8, _ => exact ⟨wG (List.mem_of_getElem? (i := 102) (by decide +kernel)) rfl, wG (List.mem_of_getElem? (i := 130) (by decide +kernel)) rfl⟩
  | 9, _ => exact ⟨wG (List.mem_of_getElem? (i := 105) (by decide +kernel)) rfl, wG (List.mem_of_getElem? (i := 268) (by decide +kernel)) rfl⟩
  | 10, _ => exact ⟨wG (List.mem_of_getElem? (i := 101) (by decide +kernel)) rfl, wG (List.mem_of_getElem? (i := 122) (by decide +kernel)) rfl⟩
  | 11, _ => exact ⟨wG (List.mem_of_getElem? (i := 112) (by decide +kernel)) rfl, wG (List.mem_of_getElem? (i := 1202) (by decide +kernel)) rfl⟩
  | k + 12, h => exact absurd h (by omega)
theorem ro_ad {ad ad' : Nat → Nat} {n : Nat} {z : Int} (h : -1 ≤ z ∧ z < n) (ha : ∀ j, j < n → ad' j = ad j) : ro ad' z = ro ad z := by
  unfold ro
  by_cases h0 : z < 0
  · rw [if_pos h0, if_pos h0]
  · rw [if_neg h0, if_neg h0, ha _ (by omega)]
theorem cz_ad {ev : Ev} {ad ad' : Nat → Nat} {n : Nat} {v : Vv} (h : wfV n v) (ha : ∀ j, j < n → ad' j = ad j) : cz ev ad' v = cz ev ad v := by
  obtain ⟨t, z⟩ := v
  unfold cz wfV at *
  dsimp only at h ⊢
  split
  · rfl
  · rfl
  · rw [ro_ad h ha]
  all_goals rfl
theorem cz_map {ev : Ev} {ad ad' : Nat → Nat} {n : Nat} (ha : ∀ j, j < n → ad' j = ad j) : ∀ l : List Vv, wfL n l → l.map (cz ev ad') = l.map (cz ev ad)
  | [], _ => rfl
  | v :: l, h => by rw [List.map_cons, List.map_cons, cz_ad (wfL_c.mp h).1 ha, cz_map ha l (wfL_c.mp h).2]
theorem wfV_le {n n' : Nat} {v : Vv} (h : wfV n v) (hn : n ≤ n') : wfV n' v := by
  obtain ⟨t, z⟩ := v
  unfold wfV at *
  dsimp only at h ⊢
  split <;> first | exact h | exact ⟨h.1, by have := h.2; omega⟩ | exact trivial | (simp_all)
theorem wfL_le {n n' : Nat} {l : List Vv} (h : wfL n l) (hn : n ≤ n') : wfL n' l := fun v hv => wfV_le (h v hv) hn
theorem LV.ad {ev : Ev} {ad ad' : Nat → Nat} {lsC : Array Slot} {ls : List Vv} {n : Nat} (h : LV ev ad lsC ls) (hl : wfL n ls) (ha : ∀ j, j < n → ad' j = ad j) : LV ev ad' lsC ls :=
  ⟨h.1, h.2.1, fun i v hi h9 => by rw [cz_ad (hl v (List.mem_of_getElem? hi)) ha]; exact h.2.2 i v hi h9⟩
theorem ce_new {cA : Nat → ClassId} {ad ad' : Nat → Nat} {F A R F' A' R' : Fn2} {Y Y' : Yy} (hw : wfS F A R Y) {j : Nat} (hj : j < Y.2.2.1) (ha : ∀ j, j < Y.2.2.1 → ad' j = ad j) (h1 : F' (j : Int) = F j) (h2 : A' (j : Int) = A j) (h3 : R' (j : Int) = R j) (h4 : Y'.1 (j : Int) = Y.1 j) (h5 : Y'.2.1 (j : Int) = Y.2.1 j) : ce cA ad' F' A' R' Y' j = ce cA ad F A R Y j := by
  have hk := hw.2.1 (j : Int) (by omega) (by omega)
  by_cases h10 : 10 ≤ Y.1 (j : Int)
  · obtain ⟨ci, hci⟩ : ∃ ci, Y.1 (j : Int) = 10 + ci := ⟨Y.1 (j : Int) - 10, by omega⟩
    rw [ce_o (h4.trans hci), ce_o hci]
    refine congrArg (fun q => (Sum.inr (ci, q) : va_E)) (List.map_congr_left fun k hk2 => ?_)
    have q := hw.2.2.1 (j : Int) (by omega) (by omega) h10 k (by rw [hci, show 10 + ci - 10 = ci by omega]; exact List.mem_range.mp hk2)
    rw [hci, show 10 + ci - 10 = ci by omega] at q
    rw [fv_cg (F := F) (R := R) (by rw [h1]) (by rw [h3])]
    generalize tTy ci k = t at q ⊢
    have q2 := q.2.2
    cases t <;> first | rfl | (unfold fv; rw [ro_ad (q2 rfl) ha])
  · have h6 : Y.1 (j : Int) < 6 := by omega
    rw [ce_a (h4.trans rfl) (by omega), ce_a rfl (by omega), h5]
    have : ar ad' (Y.1 (j : Int)) A' R' j = ar ad (Y.1 (j : Int)) A R j := by
      by_cases h44 : 4 ≤ Y.1 (j : Int)
      · have q := hw.2.2.2.2 (j : Int) (by omega) (by omega) h44 h6
        rcases (show Y.1 (j : Int) = 4 ∨ Y.1 (j : Int) = 5 by omega) with e | e <;> rw [e] <;> exact congrArg (fun f => (Sum.inr (Sum.inr (Sum.inr (Sum.inr f))) : (Nat → Int32) ⊕ (Nat → Int64) ⊕ (Nat → UInt32) ⊕ (Nat → UInt64) ⊕ (Nat → Option Nat))) (funext fun x => by rw [h3, ro_ad (q x) ha])
      · rcases (show Y.1 (j : Int) = 0 ∨ Y.1 (j : Int) = 1 ∨ Y.1 (j : Int) = 2 ∨ Y.1 (j : Int) = 3 by omega) with e | e | e | e <;> (rw [e]; unfold ar; rw [h2]; try rfl)
    rw [this]
/-- the memory with one cell more -/
theorem wf_new {F A R F' A' R' : Fn2} {Y : Yy} (hw : wfS F A R Y) {kd sz : Nat} {n : Int} (hk : kd < 6 ∨ (10 ≤ kd ∧ kd < 22)) (hn : 0 ≤ n ∧ n ≤ 10008) (hF : ∀ a, a ≠ (Y.2.2.1 : Int) → F' a = F a) (hA : ∀ a, a ≠ (Y.2.2.1 : Int) → A' a = A a) (hR : ∀ a, a ≠ (Y.2.2.1 : Int) → R' a = R a)
    (hF0 : 10 ≤ kd → ∀ i, F' Y.2.2.1 i = 0 ∧ R' Y.2.2.1 i = -1) (hA0 : kd < 4 → ∀ i, A' Y.2.2.1 i = 0) (hR0 : 4 ≤ kd → kd < 6 → ∀ i, -1 ≤ R' Y.2.2.1 i ∧ R' Y.2.2.1 i ≤ Y.2.2.1) : wfS F' A' R' (yNew Y kd n sz) := by
  have hN : ((yNew Y kd n sz).2.2.1 : Int) = Y.2.2.1 + 1 := by show ((Y.2.2.1 + 1 : Nat) : Int) = _; omega
  have h1 : ∀ a : Int, (yNew Y kd n sz).1 a = if a = (Y.2.2.1 : Int) then kd else Y.1 a := fun a => rfl
  have h2 : ∀ a : Int, (yNew Y kd n sz).2.1 a = if a = (Y.2.2.1 : Int) then n else Y.2.1 a := fun a => rfl
  refine ⟨fun a ha => ?_, fun a ha hb => ?_, fun a ha hb h10 k hk2 => ?_, fun a ha hb h6 i hi0 hi1 => ?_, fun a ha hb h4 h6 i => ?_⟩
  · rw [h1, if_neg (by omega)]; exact hw.1 a (by omega)
  · rw [h1, h2]
    by_cases e : a = (Y.2.2.1 : Int)
    · rw [if_pos e, if_pos e]; exact ⟨hk, hn⟩
    · rw [if_neg e, if_neg e]; exact hw.2.1 a ha (by omega)
  · rw [h1] at h10 hk2 ⊢
    by_cases e : a = (Y.2.2.1 : Int)
    · rw [if_pos e] at h10 hk2 ⊢
      subst e
      obtain ⟨z1, z2⟩ := hF0 h10 k
      rw [z1, z2]
      exact ⟨fun _ => ⟨by decide, by decide⟩, fun _ => ⟨by decide, by decide⟩, fun _ => ⟨by omega, by omega⟩⟩
    · rw [if_neg e] at h10 hk2 ⊢
      rw [hF a e, hR a e]
      have q := hw.2.2.1 a ha (by omega) h10 k hk2
      exact ⟨q.1, q.2.1, fun z => ⟨(q.2.2 z).1, by have := (q.2.2 z).2; omega⟩⟩
  · rw [h1] at h6 ⊢
    rw [h2] at hi1
    by_cases e : a = (Y.2.2.1 : Int)
    · rw [if_pos e] at h6 hi1 ⊢
      subst e
      refine ⟨fun z => ?_, fun z => ?_, fun z => ?_⟩
      · rw [hA0 (by omega) i]; exact ⟨by decide, by decide⟩
      · rw [hA0 (by omega) i]; exact ⟨by decide, by decide⟩
      · have := hR0 z h6 i; omega
    · rw [if_neg e] at h6 hi1 ⊢
      rw [hA a e, hR a e]
      have q := hw.2.2.2.1 a ha (by omega) h6 i hi0 hi1
      exact ⟨q.1, q.2.1, fun z => ⟨(q.2.2 z).1, by have := (q.2.2 z).2; omega⟩⟩
  · rw [h1] at h4 h6
    by_cases e : a = (Y.2.2.1 : Int)
    · rw [if_pos e] at h4 h6
      subst e
      have := hR0 h4 h6 i; omega
    · rw [if_neg e] at h4 h6
      rw [hR a e]
      have q := hw.2.2.2.2 a ha (by omega) h4 h6 i
      omega
section SIM
variable {p : Program} {l : Launch} {e : Env} {Rm : Room} {s : State} {m : MethodId} {args : Array Value} {below : List Frame} {meth : Method} {c : Code} {Qf : State → Prop} {D : va_G} {cA : Nat → ClassId} {ev : Ev} {base : Nat} {LG : List Nat} {ad0 : Nat → Nat} {N0 c0 s0 mc ms : Nat} {L : Int} {xs : Int → Int} {mi pc len cp wi a b : Nat} {y z : Int} {w : List (Int × Nat)} {ls st : List Vv} {F A R : Fn2} {Y : Yy}
theorem dv_t : ∀ a : Nat, a < 12 → ∀ j, j < nfOf a → defaultValue (tTy a j) = fv (fun _ => 0) (tTy a j) (fun _ _ => 0) (fun _ _ => -1) 0 j := by
  intro a h
  match a, h with
  | 0, _ => intro j hj; match j, hj with
    | 0, _ => rfl
    | 1, _ => rfl
    | 2, _ => rfl
    | 3, _ => rfl
    | 4, _ => rfl
    | 5, _ => rfl
    | 6, _ => rfl
    | 7, _ => rfl
    | 8, _ => rfl
    | 9, _ => rfl
    | 10, _ => rfl
    | 11, _ => rfl
    | 12, _ => rfl
    | k + 13, hj => exact absurd hj (by show ¬ k + 13 < 13; omega)
  | 1, _ => intro j hj; match j, hj with
    | 0, _ => rfl
    | 1, _ => rfl
    | 2, _ => rfl
    | 3, _ => rfl
    | 4, _ => rfl
    | 5, _ => rfl
    | 6, _ => rfl
    | 7, _ => rfl
    | 8, _ => rfl
    | k + 9, hj => exact absurd hj (by show ¬ k + 9 < 9; omega)
  | 2, _ => intro j hj; match j, hj with
    | 0, _ => rfl
    | 1, _ => rfl
    | 2, _ => rfl
    | 3, _ => rfl
    | 4, _ => rfl
    | 5, _ => rfl
    | 6, _ => rfl
    | 7, _ => rfl
    | 8, _ => rfl
    | 9, _ => rfl
    | 10, _ => rfl
    | 11, _ => rfl
    | 12, _ => rfl
    | 13, _ => rfl
    | 14, _ => rfl
    | 15, _ => rfl
    | 16, _ => rfl
    | 17, _ => rfl
    | 18, _ => rfl
    | k + 19, hj => exact absurd hj (by show ¬ k + 19 < 19; omega)
  | 3, _ => intro j hj; match j, hj with
    | 0, _ => rfl
    | 1, _ => rfl
    | 2, _ => rfl
    | 3, _ => rfl
    | 4, _ => rfl
    | 5, _ => rfl
    | 6, _ => rfl
    | k + 7, hj => exact absurd hj (by show ¬ k + 7 < 7; omega)
  | 4, _ => intro j hj; match j, hj with
    | 0, _ => rfl
    | 1, _ => rfl
    | 2, _ => rfl
    | 3, _ => rfl
    | 4, _ => rfl
    | k + 5, hj => exact absurd hj (by show ¬ k + 5 < 5; omega)
  | 5, _ => intro j hj; match j, hj with
    | 0, _ => rfl
    | 1, _ => rfl
    | 2, _ => rfl
    | 3, _ => rfl
    | k + 4, hj => exact absurd hj (by show ¬ k + 4 < 4; omega)
  | 6, _ => intro j hj; match j, hj with
    | 0, _ => rfl
    | 1, _ => rfl
    | 2, _ => rfl
    | 3, _ => rfl
    | 4, _ => rfl
    | 5, _ => rfl
    | k + 6, hj => exact absurd hj (by show ¬ k + 6 < 6; omega)
  | 7, _ => intro j hj; match j, hj with
    | 0, _ => rfl
    | 1, _ => rfl
    | 2, _ => rfl
    | 3, _ => rfl
    | 4, _ => rfl
    | 5, _ => rfl
    | 6, _ => rfl
    | 7, _ => rfl
    | 8, _ => rfl
    | 9, _ => rfl
    | 10, _ => rfl
    | 11, _ => rfl
    | 12, _ => rfl
    | k + 13, hj => exact absurd hj (by show ¬ k + 13 < 13; omega)
  | 8, _ => intro j hj; match j, hj with
    | 0, _ => rfl
    | 1, _ => rfl
    | 2, _ => rfl
    | 3, _ => rfl
    | 4, _ => rfl
    | 5, _ => rfl
    | 6, _ => rfl
    | 7, _ => rfl
    | 8, _ => rfl
    | k + 9, hj => exact absurd hj (by show ¬ k + 9 < 9; omega)
  | 9, _ => intro j hj; match j, hj with
    | 0, _ => rfl
    | 1, _ => rfl
    | 2, _ => rfl
    | 3, _ => rfl
    | k + 4, hj => exact absurd hj (by show ¬ k + 4 < 4; omega)
  | 10, _ => intro j hj; match j, hj with
    | 0, _ => rfl
    | 1, _ => rfl
    | 2, _ => rfl
    | 3, _ => rfl
    | 4, _ => rfl
    | 5, _ => rfl
    | 6, _ => rfl
    | 7, _ => rfl
    | 8, _ => rfl
    | 9, _ => rfl
    | 10, _ => rfl
    | 11, _ => rfl
    | 12, _ => rfl
    | 13, _ => rfl
    | 14, _ => rfl
    | 15, _ => rfl
    | 16, _ => rfl
    | 17, _ => rfl
    | 18, _ => rfl
    | k + 19, hj => exact absurd hj (by show ¬ k + 19 < 19; omega)
  | 11, _ => intro j hj; match j, hj with
    | 0, _ => rfl
    | 1, _ => rfl
    | 2, _ => rfl
    | 3, _ => rfl
    | 4, _ => rfl
    | 5, _ => rfl
    | 6, _ => rfl
    | 7, _ => rfl
    | 8, _ => rfl
    | 9, _ => rfl
    | 10, _ => rfl
    | 11, _ => rfl
    | 12, _ => rfl
    | 13, _ => rfl
    | 14, _ => rfl
    | 15, _ => rfl
    | 16, _ => rfl
    | 17, _ => rfl
    | 18, _ => rfl
    | 19, _ => rfl
    | 20, _ => rfl
    | 21, _ => rfl
    | 22, _ => rfl
    | 23, _ => rfl
    | 24, _ => rfl
    | 25, _ => rfl
    | 26, _ => rfl
    | 27, _ => rfl
    | 28, _ => rfl
    | 29, _ => rfl
    | 30, _ => rfl
    | 31, _ => rfl
    | 32, _ => rfl
    | 33, _ => rfl
    | 34, _ => rfl
    | 35, _ => rfl
    | 36, _ => rfl
    | 37, _ => rfl
    | 38, _ => rfl
    | 39, _ => rfl
    | 40, _ => rfl
    | 41, _ => rfl
    | 42, _ => rfl
    | 43, _ => rfl
    | 44, _ => rfl
    | 45, _ => rfl
    | 46, _ => rfl
    | 47, _ => rfl
    | 48, _ => rfl
    | 49, _ => rfl
    | 50, _ => rfl
    | 51, _ => rfl
    | 52, _ => rfl
    | 53, _ => rfl
    | 54, _ => rfl
    | 55, _ => rfl
    | 56, _ => rfl
    | 57, _ => rfl
    | 58, _ => rfl
    | 59, _ => rfl
    | 60, _ => rfl
    | 61, _ => rfl
    | 62, _ => rfl
    | 63, _ => rfl
    | 64, _ => rfl
    | 65, _ => rfl
    | 66, _ => rfl
    | 67, _ => rfl
    | 68, _ => rfl
    | 69, _ => rfl
    | 70, _ => rfl
    | 71, _ => rfl
    | 72, _ => rfl
    | 73, _ => rfl
    | 74, _ => rfl
    | 75, _ => rfl
    | 76, _ => rfl
    | 77, _ => rfl
    | 78, _ => rfl
    | 79, _ => rfl
    | 80, _ => rfl
    | 81, _ => rfl
    | 82, _ => rfl
    | 83, _ => rfl
    | 84, _ => rfl
    | 85, _ => rfl
    | 86, _ => rfl
    | 87, _ => rfl
    | 88, _ => rfl
    | k + 89, hj => exact absurd hj (by show ¬ k + 89 < 89; omega)
  | k + 12, h => exact absurd h (by omega)
theorem sim_58 (hF : FXz p s m args meth c D cA ev base L xs mi) (hRm : 1 ≤ Rm.frames ∧ 60 ≤ Rm.locals ∧ mc ≤ Rm.cells ∧ ms ≤ Rm.slots) (hd : dkI mi pc (.new cp) 3 = true) (ha : a < 12) (hlk : Cond.classLink (nmOf mi).cls cp (tR a) ∈ GW) (hh : Y.2.2.2.1 + 1 ≤ c0 + mc ∧ Y.2.2.2.2 + nfOf a ≤ s0 + ms ∧ SK p l e Rm s m args below meth c Qf D cA ev base LG ad0 N0 c0 s0 mc ms (pc + 3) ls ((2, (Y.2.2.1 : Int)) :: st) (up2 F Y.2.2.1 fun _ => 0) A (up2 R Y.2.2.1 fun _ => -1) (yNew Y (10 + a) 0 (nfOf a))) : SK p l e Rm s m args below meth c Qf D cA ev base LG ad0 N0 c0 s0 mc ms pc ls st F A R Y := by
  intro hw hl hs hlg hn h1 h2 h3 h4 h5 ad H locs lsC hA hP hD hS hLV
  obtain ⟨hx, hb, hml, hown, hts, hK, hbs, hin, hFG⟩ := hF
  obtain ⟨g0, g1, h⟩ := hh
  have had : ∀ q j, j < Y.2.2.1 → (fun j => if j = Y.2.2.1 then q else ad j) j = ad j := fun q j hj => if_neg (by omega)
  have hwn : wfS (up2 F Y.2.2.1 fun _ => 0) A (up2 R Y.2.2.1 fun _ => -1) (yNew Y (10 + a) 0 (nfOf a)) := wf_new hw (Or.inr ⟨by omega, by omega⟩) ⟨by decide, by decide⟩ (fun q hq => up2_n hq) (fun _ _ => rfl) (fun q hq => up2_n hq) (fun _ i => by rw [up2_s, up2_s]; exact ⟨rfl, rfl⟩) (fun z => absurd z (by omega)) (fun _ z => absurd z (by omega))
  refine va_new (D := D) (ci := a) (fs := (List.range (nfOf a)).map (fun k => fv (fun _ => 0) (tTy a k) (fun _ _ => 0) (fun _ _ => -1) 0 k)) hx hb hts (lay_ok a ha) (tTy a) (ty_ok a ha) hown (hts _ hlk) (hts _ (gw_ini a ha).2) (hts _ (gw_ini a ha).1) hK hP hD hS (fun q hq => by omega) (vw_at a ha) (fun j hj => ?_) (by omega) (by omega) (dk hd) (fun q H1 hP1 hD1 hS1 => ?_)
  · unfold vp_V
    rw [List.getD_eq_getElem?_getD, rng_at hj]
    exact dv_t a ha j hj
  · have hpu : wld cA ad F A R Y ++ [(q, .inr (a, (List.range (nfOf a)).map (fun k => fv (fun _ => 0) (tTy a k) (fun _ _ => 0) (fun _ _ => -1) 0 k)))] = wld cA (fun j => if j = Y.2.2.1 then q else ad j) (up2 F Y.2.2.1 fun _ => 0) A (up2 R Y.2.2.1 fun _ => -1) (yNew Y (10 + a) 0 (nfOf a)) := by
      refine wld_push rfl (if_pos rfl) ?_ (had q) (fun j hj => ce_new hw hj (had q) (up2_n (by omega)) rfl (up2_n (by omega)) (if_neg (by omega)) (if_neg (by omega)))
      rw [ce_o (ci := a) (if_pos rfl)]
      refine congrArg (fun f => (Sum.inr (a, f) : va_E)) (List.map_congr_left fun k _ => ?_)
      unfold fv
      rw [up2_s, up2_s]
      split <;> rfl
    rw [hpu] at hP1 hD1
    have hr : cz ev (fun j => if j = Y.2.2.1 then q else ad j) (2, (Y.2.2.1 : Int)) = .ref q := by
      show va_rf (ro (fun j => if j = Y.2.2.1 then q else ad j) (Y.2.2.1 : Int)) = _
      rw [ro_c, if_pos rfl]
    have k := h hwn (wfL_le hl (Nat.le_succ _)) (wfL_c.mpr ⟨⟨by show -1 ≤ (Y.2.2.1 : Int); omega, by show (Y.2.2.1 : Int) < ((Y.2.2.1 + 1 : Nat) : Int); omega⟩, wfL_le hs (Nat.le_succ _)⟩) hlg hn (by show c0 ≤ Y.2.2.2.1 + 1; omega) g0 (by show s0 ≤ Y.2.2.2.2 + nfOf a; omega) g1 (by show N0 ≤ Y.2.2.1 + 1; omega) (fun j => if j = Y.2.2.1 then q else ad j) H1 locs lsC (fun i hi => (had q i (by omega)).trans (hA i hi)) hP1 hD1 hS1 (hLV.ad hl (had q))
    rw [List.map_cons, hr, cz_map (had q) _ hs] at k
    rw [show Y.2.2.2.1 - c0 + 1 = Y.2.2.2.1 + 1 - c0 by omega, show Y.2.2.2.2 - s0 + nfOf a = Y.2.2.2.2 + nfOf a - s0 by omega]
    exact k

theorem gw_ac : Cond.arrayClass .int ∈ GW ∧ Cond.arrayClass .byte ∈ GW ∧ Cond.arrayClass .boolean ∈ GW ∧ Cond.arrayClass .long ∈ GW := ⟨wG (List.mem_of_getElem? (i := 169) (by decide +kernel)) rfl, wG (List.mem_of_getElem? (i := 804) (by decide +kernel)) rfl, wG (List.mem_of_getElem? (i := 475) (by decide +kernel)) rfl, wG (List.mem_of_getElem? (i := 237) (by decide +kernel)) rfl⟩
theorem sim_59_0 (hF : FXz p s m args meth c D cA ev base L xs mi) (hRm : 1 ≤ Rm.frames ∧ 60 ≤ Rm.locals ∧ mc ≤ Rm.cells ∧ ms ≤ Rm.slots) (hd : dkI mi pc (.newarray .int) 2 = true) (hh : pI st fun n r => 0 ≤ n ∧ n ≤ 10008 ∧ Y.2.2.2.1 + 1 ≤ c0 + mc ∧ Y.2.2.2.2 + n.toNat ≤ s0 + ms ∧ SK p l e Rm s m args below meth c Qf D cA ev base LG ad0 N0 c0 s0 mc ms (pc + 2) ls ((2, (Y.2.2.1 : Int)) :: r) F (up2 A Y.2.2.1 fun _ => 0) R (yNew Y 0 n n.toNat)) : SK p l e Rm s m args below meth c Qf D cA ev base LG ad0 N0 c0 s0 mc ms pc ls st F A R Y := by
  intro hw hl hs hlg hn h1 h2 h3 h4 h5 ad H locs lsC hA hP hD hS hLV
  obtain ⟨hx, hb, hml, hown, hts, hK, hbs, hin, hFG⟩ := hF
  obtain ⟨n, r, rfl, gn0, gn1, g0, g1, h⟩ := pI_e hh
  have hs2 := (wfL_c.mp hs).2
  have hn1 : R32 n := (wfL_c.mp hs).1
  have had : ∀ q j, j < Y.2.2.1 → (fun j => if j = Y.2.2.1 then q else ad j) j = ad j := fun q j hj => if_neg (by omega)
  have hwn : wfS F (up2 A Y.2.2.1 fun _ => 0) R (yNew Y 0 n n.toNat) := wf_new hw (Or.inl (by decide)) ⟨gn0, gn1⟩ (fun _ _ => rfl) (fun q hq => up2_n hq) (fun _ _ => rfl) (fun z => absurd z (by decide)) (fun _ i => by rw [up2_s]) (fun z => absurd z (by decide))
  refine va_newa (D := D) (atype := .int) (ty := .int) (a0 := (n.toNat, .inl (fun _ => 0))) hx hb (hts _ (gw_ac.1)) rfl hK hP hD hS (fun q hq => by omega) (fun cA => rfl) (fun z => absurd ((o32_lt hn1 R32_0).mp z) (by omega)) (o32_cl hn1) (by show n.toNat * 4 ≤ _; omega) (by omega) (by omega) (dk hd) (fun q cB H1 hK1 hP1 hD1 hS1 => ?_)
  have hcB : cB = cA 0 := by
    have e1 := (hK1.2 6 _ rfl).2
    have e2 := (hK.2 0 _ rfl).2
    exact Option.some.inj (e1.symm.trans e2)
  subst hcB
  · have hpu : wld cA ad F A R Y ++ [(q, .inl (cA 0, n.toNat, .inl (fun _ => 0)))] = wld cA (fun j => if j = Y.2.2.1 then q else ad j) F (up2 A Y.2.2.1 fun _ => 0) R (yNew Y 0 n n.toNat) := by
      refine wld_push rfl (if_pos rfl) ?_ (had q) (fun j hj => ce_new hw hj (had q) rfl (up2_n (by omega)) rfl (if_neg (by omega)) (if_neg (by omega)))
      rw [ce_a (kd := 0) (if_pos rfl) (by decide)]
      show (Sum.inl (cA 0, (if (Y.2.2.1 : Int) = Y.2.2.1 then n else _).toNat, _) : va_E) = _
      rw [if_pos rfl]
      unfold ar
      rw [up2_s]
      rfl
    rw [hpu] at hP1 hD1
    have hr : cz ev (fun j => if j = Y.2.2.1 then q else ad j) (2, (Y.2.2.1 : Int)) = .ref q := by
      show va_rf (ro (fun j => if j = Y.2.2.1 then q else ad j) (Y.2.2.1 : Int)) = _
      rw [ro_c, if_pos rfl]
    have k := h hwn (wfL_le hl (Nat.le_succ _)) (wfL_c.mpr ⟨⟨by show -1 ≤ (Y.2.2.1 : Int); omega, by show (Y.2.2.1 : Int) < ((Y.2.2.1 + 1 : Nat) : Int); omega⟩, wfL_le hs2 (Nat.le_succ _)⟩) hlg hn (by show c0 ≤ Y.2.2.2.1 + 1; omega) g0 (by show s0 ≤ Y.2.2.2.2 + n.toNat; omega) g1 (by show N0 ≤ Y.2.2.1 + 1; omega) (fun j => if j = Y.2.2.1 then q else ad j) H1 locs lsC (fun i hi => (had q i (by omega)).trans (hA i hi)) hP1 hD1 hS1 (hLV.ad hl (had q))
    rw [List.map_cons, hr, cz_map (had q) _ hs2] at k
    rw [show Y.2.2.2.1 - c0 + 1 = Y.2.2.2.1 + 1 - c0 by omega, show Y.2.2.2.2 - s0 + n.toNat = Y.2.2.2.2 + n.toNat - s0 by omega]
    exact k

theorem sim_59_1 (hF : FXz p s m args meth c D cA ev base L xs mi) (hRm : 1 ≤ Rm.frames ∧ 60 ≤ Rm.locals ∧ mc ≤ Rm.cells ∧ ms ≤ Rm.slots) (hd : dkI mi pc (.newarray .byte) 2 = true) (hh : pI st fun n r => 0 ≤ n ∧ n ≤ 10008 ∧ Y.2.2.2.1 + 1 ≤ c0 + mc ∧ Y.2.2.2.2 + n.toNat ≤ s0 + ms ∧ SK p l e Rm s m args below meth c Qf D cA ev base LG ad0 N0 c0 s0 mc ms (pc + 2) ls ((2, (Y.2.2.1 : Int)) :: r) F (up2 A Y.2.2.1 fun _ => 0) R (yNew Y 1 n n.toNat)) : SK p l e Rm s m args below meth c Qf D cA ev base LG ad0 N0 c0 s0 mc ms pc ls st F A R Y := by
  intro hw hl hs hlg hn h1 h2 h3 h4 h5 ad H locs lsC hA hP hD hS hLV
  obtain ⟨hx, hb, hml, hown, hts, hK, hbs, hin, hFG⟩ := hF
  obtain ⟨n, r, rfl, gn0, gn1, g0, g1, h⟩ := pI_e hh
  have hs2 := (wfL_c.mp hs).2
  have hn1 : R32 n := (wfL_c.mp hs).1
  have had : ∀ q j, j < Y.2.2.1 → (fun j => if j = Y.2.2.1 then q else ad j) j = ad j := fun q j hj => if_neg (by omega)
  have hwn : wfS F (up2 A Y.2.2.1 fun _ => 0) R (yNew Y 1 n n.toNat) := wf_new hw (Or.inl (by decide)) ⟨gn0, gn1⟩ (fun _ _ => rfl) (fun q hq => up2_n hq) (fun _ _ => rfl) (fun z => absurd z (by decide)) (fun _ i => by rw [up2_s]) (fun z => absurd z (by decide))
  refine va_newa (D := D) (atype := .byte) (ty := .byte) (a0 := (n.toNat, .inl (fun _ => 0))) hx hb (hts _ (gw_ac.2.1)) rfl hK hP hD hS (fun q hq => by omega) (fun cA => rfl) (fun z => absurd ((o32_lt hn1 R32_0).mp z) (by omega)) (o32_cl hn1) (by show n.toNat * 1 ≤ _; omega) (by omega) (by omega) (dk hd) (fun q cB H1 hK1 hP1 hD1 hS1 => ?_)
  have hcB : cB = cA 1 := by
    have e1 := (hK1.2 6 _ rfl).2
    have e2 := (hK.2 1 _ rfl).2
    exact Option.some.inj (e1.symm.trans e2)
  subst hcB
  · have hpu : wld cA ad F A R Y ++ [(q, .inl (cA 1, n.toNat, .inl (fun _ => 0)))] = wld cA (fun j => if j = Y.2.2.1 then q else ad j) F (up2 A Y.2.2.1 fun _ => 0) R (yNew Y 1 n n.toNat) := by
      refine wld_push rfl (if_pos rfl) ?_ (had q) (fun j hj => ce_new hw hj (had q) rfl (up2_n (by omega)) rfl (if_neg (by omega)) (if_neg (by omega)))
      rw [ce_a (kd := 1) (if_pos rfl) (by decide)]
      show (Sum.inl (cA 1, (if (Y.2.2.1 : Int) = Y.2.2.1 then n else _).toNat, _) : va_E) = _
      rw [if_pos rfl]
      unfold ar
      rw [up2_s]
      rfl
    rw [hpu] at hP1 hD1
    have hr : cz ev (fun j => if j = Y.2.2.1 then q else ad j) (2, (Y.2.2.1 : Int)) = .ref q := by
      show va_rf (ro (fun j => if j = Y.2.2.1 then q else ad j) (Y.2.2.1 : Int)) = _
      rw [ro_c, if_pos rfl]
    have k := h hwn (wfL_le hl (Nat.le_succ _)) (wfL_c.mpr ⟨⟨by show -1 ≤ (Y.2.2.1 : Int); omega, by show (Y.2.2.1 : Int) < ((Y.2.2.1 + 1 : Nat) : Int); omega⟩, wfL_le hs2 (Nat.le_succ _)⟩) hlg hn (by show c0 ≤ Y.2.2.2.1 + 1; omega) g0 (by show s0 ≤ Y.2.2.2.2 + n.toNat; omega) g1 (by show N0 ≤ Y.2.2.1 + 1; omega) (fun j => if j = Y.2.2.1 then q else ad j) H1 locs lsC (fun i hi => (had q i (by omega)).trans (hA i hi)) hP1 hD1 hS1 (hLV.ad hl (had q))
    rw [List.map_cons, hr, cz_map (had q) _ hs2] at k
    rw [show Y.2.2.2.1 - c0 + 1 = Y.2.2.2.1 + 1 - c0 by omega, show Y.2.2.2.2 - s0 + n.toNat = Y.2.2.2.2 + n.toNat - s0 by omega]
    exact k

theorem sim_59_2 (hF : FXz p s m args meth c D cA ev base L xs mi) (hRm : 1 ≤ Rm.frames ∧ 60 ≤ Rm.locals ∧ mc ≤ Rm.cells ∧ ms ≤ Rm.slots) (hd : dkI mi pc (.newarray .boolean) 2 = true) (hh : pI st fun n r => 0 ≤ n ∧ n ≤ 10008 ∧ Y.2.2.2.1 + 1 ≤ c0 + mc ∧ Y.2.2.2.2 + n.toNat ≤ s0 + ms ∧ SK p l e Rm s m args below meth c Qf D cA ev base LG ad0 N0 c0 s0 mc ms (pc + 2) ls ((2, (Y.2.2.1 : Int)) :: r) F (up2 A Y.2.2.1 fun _ => 0) R (yNew Y 2 n n.toNat)) : SK p l e Rm s m args below meth c Qf D cA ev base LG ad0 N0 c0 s0 mc ms pc ls st F A R Y := by
  intro hw hl hs hlg hn h1 h2 h3 h4 h5 ad H locs lsC hA hP hD hS hLV
  obtain ⟨hx, hb, hml, hown, hts, hK, hbs, hin, hFG⟩ := hF
  obtain ⟨n, r, rfl, gn0, gn1, g0, g1, h⟩ := pI_e hh
  have hs2 := (wfL_c.mp hs).2
  have hn1 : R32 n := (wfL_c.mp hs).1
  have had : ∀ q j, j < Y.2.2.1 → (fun j => if j = Y.2.2.1 then q else ad j) j = ad j := fun q j hj => if_neg (by omega)
  have hwn : wfS F (up2 A Y.2.2.1 fun _ => 0) R (yNew Y 2 n n.toNat) := wf_new hw (Or.inl (by decide)) ⟨gn0, gn1⟩ (fun _ _ => rfl) (fun q hq => up2_n hq) (fun _ _ => rfl) (fun z => absurd z (by decide)) (fun _ i => by rw [up2_s]) (fun z => absurd z (by decide))
  refine va_newa (D := D) (atype := .boolean) (ty := .boolean) (a0 := (n.toNat, .inl (fun _ => 0))) hx hb (hts _ (gw_ac.2.2.1)) rfl hK hP hD hS (fun q hq => by omega) (fun cA => rfl) (fun z => absurd ((o32_lt hn1 R32_0).mp z) (by omega)) (o32_cl hn1) (by show n.toNat * 1 ≤ _; omega) (by omega) (by omega) (dk hd) (fun q cB H1 hK1 hP1 hD1 hS1 => ?_)
  have hcB : cB = cA 2 := by
    have e1 := (hK1.2 6 _ rfl).2
    have e2 := (hK.2 2 _ rfl).2
    exact Option.some.inj (e1.symm.trans e2)
  subst hcB
  · have hpu : wld cA ad F A R Y ++ [(q, .inl (cA 2, n.toNat, .inl (fun _ => 0)))] = wld cA (fun j => if j = Y.2.2.1 then q else ad j) F (up2 A Y.2.2.1 fun _ => 0) R (yNew Y 2 n n.toNat) := by
      refine wld_push rfl (if_pos rfl) ?_ (had q) (fun j hj => ce_new hw hj (had q) rfl (up2_n (by omega)) rfl (if_neg (by omega)) (if_neg (by omega)))
      rw [ce_a (kd := 2) (if_pos rfl) (by decide)]
      show (Sum.inl (cA 2, (if (Y.2.2.1 : Int) = Y.2.2.1 then n else _).toNat, _) : va_E) = _
      rw [if_pos rfl]
      unfold ar
      rw [up2_s]
      rfl
    rw [hpu] at hP1 hD1
    have hr : cz ev (fun j => if j = Y.2.2.1 then q else ad j) (2, (Y.2.2.1 : Int)) = .ref q := by
      show va_rf (ro (fun j => if j = Y.2.2.1 then q else ad j) (Y.2.2.1 : Int)) = _
      rw [ro_c, if_pos rfl]
    have k := h hwn (wfL_le hl (Nat.le_succ _)) (wfL_c.mpr ⟨⟨by show -1 ≤ (Y.2.2.1 : Int); omega, by show (Y.2.2.1 : Int) < ((Y.2.2.1 + 1 : Nat) : Int); omega⟩, wfL_le hs2 (Nat.le_succ _)⟩) hlg hn (by show c0 ≤ Y.2.2.2.1 + 1; omega) g0 (by show s0 ≤ Y.2.2.2.2 + n.toNat; omega) g1 (by show N0 ≤ Y.2.2.1 + 1; omega) (fun j => if j = Y.2.2.1 then q else ad j) H1 locs lsC (fun i hi => (had q i (by omega)).trans (hA i hi)) hP1 hD1 hS1 (hLV.ad hl (had q))
    rw [List.map_cons, hr, cz_map (had q) _ hs2] at k
    rw [show Y.2.2.2.1 - c0 + 1 = Y.2.2.2.1 + 1 - c0 by omega, show Y.2.2.2.2 - s0 + n.toNat = Y.2.2.2.2 + n.toNat - s0 by omega]
    exact k

theorem sim_59_3 (hF : FXz p s m args meth c D cA ev base L xs mi) (hRm : 1 ≤ Rm.frames ∧ 60 ≤ Rm.locals ∧ mc ≤ Rm.cells ∧ ms ≤ Rm.slots) (hd : dkI mi pc (.newarray .long) 2 = true) (hh : pI st fun n r => 0 ≤ n ∧ n ≤ 10008 ∧ Y.2.2.2.1 + 1 ≤ c0 + mc ∧ Y.2.2.2.2 + n.toNat ≤ s0 + ms ∧ SK p l e Rm s m args below meth c Qf D cA ev base LG ad0 N0 c0 s0 mc ms (pc + 2) ls ((2, (Y.2.2.1 : Int)) :: r) F (up2 A Y.2.2.1 fun _ => 0) R (yNew Y 3 n n.toNat)) : SK p l e Rm s m args below meth c Qf D cA ev base LG ad0 N0 c0 s0 mc ms pc ls st F A R Y := by
  intro hw hl hs hlg hn h1 h2 h3 h4 h5 ad H locs lsC hA hP hD hS hLV
  obtain ⟨hx, hb, hml, hown, hts, hK, hbs, hin, hFG⟩ := hF
  obtain ⟨n, r, rfl, gn0, gn1, g0, g1, h⟩ := pI_e hh
  have hs2 := (wfL_c.mp hs).2
  have hn1 : R32 n := (wfL_c.mp hs).1
  have had : ∀ q j, j < Y.2.2.1 → (fun j => if j = Y.2.2.1 then q else ad j) j = ad j := fun q j hj => if_neg (by omega)
  have hwn : wfS F (up2 A Y.2.2.1 fun _ => 0) R (yNew Y 3 n n.toNat) := wf_new hw (Or.inl (by decide)) ⟨gn0, gn1⟩ (fun _ _ => rfl) (fun q hq => up2_n hq) (fun _ _ => rfl) (fun z => absurd z (by decide)) (fun _ i => by rw [up2_s]) (fun z => absurd z (by decide))
  refine va_newa (D := D) (atype := .long) (ty := .long) (a0 := (n.toNat, .inr (.inl (fun _ => 0)))) hx hb (hts _ (gw_ac.2.2.2)) rfl hK hP hD hS (fun q hq => by omega) (fun cA => rfl) (fun z => absurd ((o32_lt hn1 R32_0).mp z) (by omega)) (o32_cl hn1) (by show n.toNat * 8 ≤ _; omega) (by omega) (by omega) (dk hd) (fun q cB H1 hK1 hP1 hD1 hS1 => ?_)
  have hcB : cB = cA 3 := by
    have e1 := (hK1.2 6 _ rfl).2
    have e2 := (hK.2 3 _ rfl).2
    exact Option.some.inj (e1.symm.trans e2)
  subst hcB
  · have hpu : wld cA ad F A R Y ++ [(q, .inl (cA 3, n.toNat, .inr (.inl (fun _ => 0))))] = wld cA (fun j => if j = Y.2.2.1 then q else ad j) F (up2 A Y.2.2.1 fun _ => 0) R (yNew Y 3 n n.toNat) := by
      refine wld_push rfl (if_pos rfl) ?_ (had q) (fun j hj => ce_new hw hj (had q) rfl (up2_n (by omega)) rfl (if_neg (by omega)) (if_neg (by omega)))
      rw [ce_a (kd := 3) (if_pos rfl) (by decide)]
      show (Sum.inl (cA 3, (if (Y.2.2.1 : Int) = Y.2.2.1 then n else _).toNat, _) : va_E) = _
      rw [if_pos rfl]
      unfold ar
      rw [up2_s]
      rfl
    rw [hpu] at hP1 hD1
    have hr : cz ev (fun j => if j = Y.2.2.1 then q else ad j) (2, (Y.2.2.1 : Int)) = .ref q := by
      show va_rf (ro (fun j => if j = Y.2.2.1 then q else ad j) (Y.2.2.1 : Int)) = _
      rw [ro_c, if_pos rfl]
    have k := h hwn (wfL_le hl (Nat.le_succ _)) (wfL_c.mpr ⟨⟨by show -1 ≤ (Y.2.2.1 : Int); omega, by show (Y.2.2.1 : Int) < ((Y.2.2.1 + 1 : Nat) : Int); omega⟩, wfL_le hs2 (Nat.le_succ _)⟩) hlg hn (by show c0 ≤ Y.2.2.2.1 + 1; omega) g0 (by show s0 ≤ Y.2.2.2.2 + n.toNat; omega) g1 (by show N0 ≤ Y.2.2.1 + 1; omega) (fun j => if j = Y.2.2.1 then q else ad j) H1 locs lsC (fun i hi => (had q i (by omega)).trans (hA i hi)) hP1 hD1 hS1 (hLV.ad hl (had q))
    rw [List.map_cons, hr, cz_map (had q) _ hs2] at k
    rw [show Y.2.2.2.1 - c0 + 1 = Y.2.2.2.1 + 1 - c0 by omega, show Y.2.2.2.2 - s0 + n.toNat = Y.2.2.2.2 + n.toNat - s0 by omega]
    exact k

theorem sim_60 (hF : FXz p s m args meth c D cA ev base L xs mi) (hRm : 1 ≤ Rm.frames ∧ 60 ≤ Rm.locals ∧ mc ≤ Rm.cells ∧ ms ≤ Rm.slots) (hd : dkI mi pc (.anewarray cp) 3 = true) (hlk : Cond.classLink (nmOf mi).cls cp RX1 ∈ GW) (hh : pI st fun n r => 0 ≤ n ∧ n ≤ 10008 ∧ Y.2.2.2.1 + 1 ≤ c0 + mc ∧ Y.2.2.2.2 + n.toNat ≤ s0 + ms ∧ SK p l e Rm s m args below meth c Qf D cA ev base LG ad0 N0 c0 s0 mc ms (pc + 3) ls ((2, (Y.2.2.1 : Int)) :: r) F A (up2 R Y.2.2.1 fun _ => -1) (yNew Y 4 n n.toNat)) : SK p l e Rm s m args below meth c Qf D cA ev base LG ad0 N0 c0 s0 mc ms pc ls st F A R Y := by
  intro hw hl hs hlg hn h1 h2 h3 h4 h5 ad H locs lsC hA hP hD hS hLV
  obtain ⟨hx, hb, hml, hown, hts, hK, hbs, hin, hFG⟩ := hF
  obtain ⟨n, r, rfl, gn0, gn1, g0, g1, h⟩ := pI_e hh
  have hs2 := (wfL_c.mp hs).2
  have hn1 : R32 n := (wfL_c.mp hs).1
  have had : ∀ q j, j < Y.2.2.1 → (fun j => if j = Y.2.2.1 then q else ad j) j = ad j := fun q j hj => if_neg (by omega)
  have hwn : wfS F A (up2 R Y.2.2.1 fun _ => -1) (yNew Y 4 n n.toNat) := wf_new hw (Or.inl (by decide)) ⟨gn0, gn1⟩ (fun _ _ => rfl) (fun _ _ => rfl) (fun q hq => up2_n hq) (fun z => absurd z (by decide)) (fun z => absurd z (by decide)) (fun _ _ i => by rw [up2_s]; omega)
  refine va_newq (D := D) hx hb hown (hts _ hlk) hFG.2.2.2.2.2.2.2.2.2.2.1 hK hP hD hS (fun q hq => by omega) (fun z => absurd ((o32_lt hn1 R32_0).mp z) (by omega)) (o32_cl hn1) (by omega) (by omega) (by omega) (dk hd) (fun q cB H1 hK1 hP1 hD1 hS1 => ?_)
  have hcB : cB = cA 4 := by
    obtain ⟨k1, c1, q1, q2, q3, q4⟩ := (hK1.2 6 _ rfl).2
    obtain ⟨k2, c2, q5, q6, q7, q8⟩ := (hK.2 4 _ rfl).2
    exact Option.some.inj (q4.symm.trans q8)
  subst hcB
  · have hpu : wld cA ad F A R Y ++ [(q, .inl (cA 4, n.toNat, .inr (.inr (.inr (.inr (fun _ => none))))))] = wld cA (fun j => if j = Y.2.2.1 then q else ad j) F A (up2 R Y.2.2.1 fun _ => -1) (yNew Y 4 n n.toNat) := by
      refine wld_push rfl (if_pos rfl) ?_ (had q) (fun j hj => ce_new hw hj (had q) rfl rfl (up2_n (by omega)) (if_neg (by omega)) (if_neg (by omega)))
      rw [ce_a (kd := 4) (if_pos rfl) (by decide)]
      show (Sum.inl (cA 4, (if (Y.2.2.1 : Int) = Y.2.2.1 then n else _).toNat, _) : va_E) = _
      rw [if_pos rfl]
      unfold ar
      rw [up2_s]
      rfl
    rw [hpu] at hP1 hD1
    have hr : cz ev (fun j => if j = Y.2.2.1 then q else ad j) (2, (Y.2.2.1 : Int)) = .ref q := by
      show va_rf (ro (fun j => if j = Y.2.2.1 then q else ad j) (Y.2.2.1 : Int)) = _
      rw [ro_c, if_pos rfl]
    have k := h hwn (wfL_le hl (Nat.le_succ _)) (wfL_c.mpr ⟨⟨by show -1 ≤ (Y.2.2.1 : Int); omega, by show (Y.2.2.1 : Int) < ((Y.2.2.1 + 1 : Nat) : Int); omega⟩, wfL_le hs2 (Nat.le_succ _)⟩) hlg hn (by show c0 ≤ Y.2.2.2.1 + 1; omega) g0 (by show s0 ≤ Y.2.2.2.2 + n.toNat; omega) g1 (by show N0 ≤ Y.2.2.1 + 1; omega) (fun j => if j = Y.2.2.1 then q else ad j) H1 locs lsC (fun i hi => (had q i (by omega)).trans (hA i hi)) hP1 hD1 hS1 (hLV.ad hl (had q))
    rw [List.map_cons, hr, cz_map (had q) _ hs2] at k
    rw [show Y.2.2.2.1 - c0 + 1 = Y.2.2.2.1 + 1 - c0 by omega, show Y.2.2.2.2 - s0 + n.toNat = Y.2.2.2.2 + n.toNat - s0 by omega]
    exact k

theorem sim_76 (hF : FXz p s m args meth c D cA ev base L xs mi) (hd : dkI mi pc (.ldc cp) 2 = true) (hz : (z = 0 ∧ (nmOf mi).cls = RX8 ∧ cp = 82) ∨ (z = 1 ∧ (nmOf mi).cls = RX8 ∧ cp = 67)) (hh : SK p l e Rm s m args below meth c Qf D cA ev base LG ad0 N0 c0 s0 mc ms (pc + 2) ls ((3, z) :: st) F A R Y) : SK p l e Rm s m args below meth c Qf D cA ev base LG ad0 N0 c0 s0 mc ms pc ls st F A R Y := by
  intro hw hl hs hlg hn h1 h2 h3 h4 h5 ad H locs lsC hA hP hD hS hLV
  obtain ⟨hx, hb, hml, hown, hts, hK, hbs, hin, hFG⟩ := hF
  have h := hh
  rcases hz with ⟨rfl, ho, rfl⟩ | ⟨rfl, ho, rfl⟩
  · have k := h hw hl (wfL_c.mpr ⟨⟨by decide, by decide⟩, hs⟩) hlg hn h1 h2 h3 h4 h5 ad H locs lsC hA hP hD hS hLV
    rw [ho] at hown
    exact va_ldcS hx hb hown hFG.2.2.2.2.1 (dk hd) k
  · have k := h hw hl (wfL_c.mpr ⟨⟨by decide, by decide⟩, hs⟩) hlg hn h1 h2 h3 h4 h5 ad H locs lsC hA hP hD hS hLV
    rw [ho] at hown
    exact va_ldcS hx hb hown hFG.2.2.2.2.2.1 (dk hd) k

theorem sim_77 (hF : FXz p s m args meth c D cA ev base L xs mi) (hd : dkI mi pc (.getfield cp) 3 = true) (hlk : Cond.fieldLink (nmOf mi).cls cp "java/lang/String" "value" "[B" ∈ GW) (hh : pT 3 st fun k r => SK p l e Rm s m args below meth c Qf D cA ev base LG ad0 N0 c0 s0 mc ms (pc + 3) ls ((4, k) :: r) F A R Y) : SK p l e Rm s m args below meth c Qf D cA ev base LG ad0 N0 c0 s0 mc ms pc ls st F A R Y := by
  intro hw hl hs hlg hn h1 h2 h3 h4 h5 ad H locs lsC hA hP hD hS hLV
  obtain ⟨hx, hb, hml, hown, hts, hK, hbs, hin, hFG⟩ := hF
  obtain ⟨x, r, rfl, h⟩ := pT_e hh
  have hk2 : 0 ≤ x ∧ x < 2 := (wfL_c.mp hs).1
  obtain ⟨q, hq2, rfl⟩ : ∃ q : Nat, q < 2 ∧ x = (q : Int) := ⟨x.toNat, by omega, by omega⟩
  have hT := hFG.2.2.2.1.1 q hq2
  have k := h hw hl (wfL_c.mpr ⟨(wfL_c.mp hs).1, (wfL_c.mp hs).2⟩) hlg hn h1 h2 h3 h4 h5 ad H locs lsC hA hP hD hS hLV
  exact vk_getf hx hb hT.2.2.1 hS hown (hts _ hlk) (fun _ q => q) (dk hd) k

theorem sim_78 (hF : FXz p s m args meth c D cA ev base L xs mi) (hd : dkI mi pc (.getfield cp) 3 = true) (hlk : Cond.fieldLink (nmOf mi).cls cp "java/lang/String" "coder" "B" ∈ GW) (hh : pT 3 st fun _ r => SK p l e Rm s m args below meth c Qf D cA ev base LG ad0 N0 c0 s0 mc ms (pc + 3) ls ((0, 0) :: r) F A R Y) : SK p l e Rm s m args below meth c Qf D cA ev base LG ad0 N0 c0 s0 mc ms pc ls st F A R Y := by
  intro hw hl hs hlg hn h1 h2 h3 h4 h5 ad H locs lsC hA hP hD hS hLV
  obtain ⟨hx, hb, hml, hown, hts, hK, hbs, hin, hFG⟩ := hF
  obtain ⟨x, r, rfl, h⟩ := pT_e hh
  have hk2 : 0 ≤ x ∧ x < 2 := (wfL_c.mp hs).1
  obtain ⟨q, hq2, rfl⟩ : ∃ q : Nat, q < 2 ∧ x = (q : Int) := ⟨x.toNat, by omega, by omega⟩
  have hT := hFG.2.2.2.1.1 q hq2
  have k := h hw hl (wfL_c.mpr ⟨R32_0, (wfL_c.mp hs).2⟩) hlg hn h1 h2 h3 h4 h5 ad H locs lsC hA hP hD hS hLV
  exact vk_getf hx hb hT.2.1 hS hown (hts _ hlk) (fun _ q => q) (dk hd) k

theorem sim_79 (hF : FXz p s m args meth c D cA ev base L xs mi) (hd : dkI mi pc (.getstatic cp) 3 = true) (hz : z = 1) (hlk : Cond.fieldLink (nmOf mi).cls cp "java/lang/String" "COMPACT_STRINGS" "Z" ∈ GW) (hh : SK p l e Rm s m args below meth c Qf D cA ev base LG ad0 N0 c0 s0 mc ms (pc + 3) ls ((0, z) :: st) F A R Y) : SK p l e Rm s m args below meth c Qf D cA ev base LG ad0 N0 c0 s0 mc ms pc ls st F A R Y := by
  intro hw hl hs hlg hn h1 h2 h3 h4 h5 ad H locs lsC hA hP hD hS hLV
  obtain ⟨hx, hb, hml, hown, hts, hK, hbs, hin, hFG⟩ := hF
  have h := hh
  subst hz
  have k := h hw hl (wfL_c.mpr ⟨⟨by decide, by decide⟩, hs⟩) hlg hn h1 h2 h3 h4 h5 ad H locs lsC hA hP hD hS hLV
  exact va_gets hx hb hFG.2.2.2.2.2.2.1 hS hown (hts _ hlk) (fun _ q => q) (dk hd) k

theorem sim_83 (hF : FXz p s m args meth c D cA ev base L xs mi) (hd : dkI mi pc (.getstatic cp) 3 = true) (hlk : Cond.fieldLink (nmOf mi).cls cp "jdk/internal/util/Preconditions" "SIOOBE_FORMATTER" "Ljava/util/function/BiFunction;" ∈ GW) (hh : SK p l e Rm s m args below meth c Qf D cA ev base LG ad0 N0 c0 s0 mc ms (pc + 3) ls ((6, 0) :: st) F A R Y) : SK p l e Rm s m args below meth c Qf D cA ev base LG ad0 N0 c0 s0 mc ms pc ls st F A R Y := by
  intro hw hl hs hlg hn h1 h2 h3 h4 h5 ad H locs lsC hA hP hD hS hLV
  obtain ⟨hx, hb, hml, hown, hts, hK, hbs, hin, hFG⟩ := hF
  have h := hh
  have k := h hw hl (wfL_c.mpr ⟨trivial, hs⟩) hlg hn h1 h2 h3 h4 h5 ad H locs lsC hA hP hD hS hLV
  exact va_gets hx hb hFG.2.2.2.2.2.2.2.1 hS hown (hts _ hlk) (fun _ q => q) (dk hd) k

theorem tx_len : ∀ q : Nat, q < 2 → [96, 10].getD q 0 = (txt (q : Int)).length ∧ (txt (q : Int)).length < 200 ∧ (∀ j : Nat, j < (txt (q : Int)).length → (txB.getD q []).getD j 0 = Int32.ofInt ((txt (q : Int)).getD j 0) ∧ 0 ≤ (txt (q : Int)).getD j 0 ∧ (txt (q : Int)).getD j 0 < 256) := by decide +kernel
theorem sim_84 (hF : FXz p s m args meth c D cA ev base L xs mi) (hd : dkI mi pc .arraylength 1 = true) (hh : pT 4 st fun k r => SK p l e Rm s m args below meth c Qf D cA ev base LG ad0 N0 c0 s0 mc ms (pc + 1) ls ((0, ((txt k).length : Int)) :: r) F A R Y) : SK p l e Rm s m args below meth c Qf D cA ev base LG ad0 N0 c0 s0 mc ms pc ls st F A R Y := by
  intro hw hl hs hlg hn h1 h2 h3 h4 h5 ad H locs lsC hA hP hD hS hLV
  obtain ⟨hx, hb, hml, hown, hts, hK, hbs, hin, hFG⟩ := hF
  obtain ⟨x, r, rfl, h⟩ := pT_e hh
  have hk2 : 0 ≤ x ∧ x < 2 := (wfL_c.mp hs).1
  obtain ⟨q, hq2, rfl⟩ : ∃ q : Nat, q < 2 ∧ x = (q : Int) := ⟨x.toNat, by omega, by omega⟩
  have hT := hFG.2.2.2.1.1 q hq2
  obtain ⟨t1, t2, -⟩ := tx_len q hq2
  have k := h hw hl (wfL_c.mpr ⟨⟨by show (_ : Int) ≤ ((txt (q : Int)).length : Int); omega, by show ((txt (q : Int)).length : Int) ≤ _; omega⟩, (wfL_c.mp hs).2⟩) hlg hn h1 h2 h3 h4 h5 ad H locs lsC hA hP hD hS hLV
  refine va_tlen hx hb hT.2.2.2 hS (v := Int32.ofInt ((txt (q : Int)).length : Int)) (by rw [t1, Int32.ofInt_eq_ofNat]) (dk hd) k

theorem sim_85 (hF : FXz p s m args meth c D cA ev base L xs mi) (hd : dkI mi pc .baload 1 = true) (hh : pI st fun i r => pT 4 r fun k r => 0 ≤ i ∧ i < (txt k).length ∧ SK p l e Rm s m args below meth c Qf D cA ev base LG ad0 N0 c0 s0 mc ms (pc + 1) ls ((0, (txt k).getD i.toNat 0) :: r) F A R Y) : SK p l e Rm s m args below meth c Qf D cA ev base LG ad0 N0 c0 s0 mc ms pc ls st F A R Y := by
  intro hw hl hs hlg hn h1 h2 h3 h4 h5 ad H locs lsC hA hP hD hS hLV
  obtain ⟨hx, hb, hml, hown, hts, hK, hbs, hin, hFG⟩ := hF
  obtain ⟨ix, r1, rfl, k1⟩ := pI_e hh
  obtain ⟨x, r, rfl, g0, g1, h⟩ := pT_e k1
  have hk2 : 0 ≤ x ∧ x < 2 := (wfL_c.mp (wfL_c.mp hs).2).1
  obtain ⟨q, hq2, rfl⟩ : ∃ q : Nat, q < 2 ∧ x = (q : Int) := ⟨x.toNat, by omega, by omega⟩
  have hT := hFG.2.2.2.1.1 q hq2
  obtain ⟨t1, t2, t3⟩ := tx_len q hq2
  obtain ⟨t4, t5, t6⟩ := t3 ix.toNat (by omega)
  have hix : R32 ix := (wfL_c.mp hs).1
  have k := h hw hl (wfL_c.mpr ⟨⟨by show (_ : Int) ≤ (txt (q : Int)).getD ix.toNat 0; omega, by show (txt (q : Int)).getD ix.toNat 0 ≤ _; omega⟩, (wfL_c.mp (wfL_c.mp hs).2).2⟩) hlg hn h1 h2 h3 h4 h5 ad H locs lsC hA hP hD hS hLV
  refine va_tb hx hb hT.2.2.2 hS (i := Int32.ofInt ix) (by have := o32_in hix g0 g1; rw [Int.toNat_natCast] at this; rw [t1]; exact this) (v := .int (Int32.ofInt ((txt (q : Int)).getD ix.toNat 0))) (by rw [o32_cl hix, t4]) (dk hd) k

end SIM
