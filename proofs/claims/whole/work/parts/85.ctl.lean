/-! JUMPS, MATH, THE SCRIPT, THE TEXTS -/
theorem o32_le {a b : Int} (ha : R32 a) (hb : R32 b) : Int32.ofInt a ≤ Int32.ofInt b ↔ a ≤ b := by
  rw [Int32.le_iff_toInt_le, o32 ha, o32 hb]
theorem R32_0 : R32 0 := ⟨by decide, by decide⟩
theorem wsum_s {ev : Ev} {ad : Nat → Nat} {n : Nat} (he : ev.2.2.2 = .null ∨ ∃ a, ev.2.2.2 = .ref a) : ∀ r : List Vv, wfL n r → ((r.map (cz ev ad)).map fun v => v.category).sum ≤ wsum r
  | [], _ => Nat.le_refl _
  | v :: r, h => by
    have ih := wsum_s (ad := ad) he r (wfL_c.mp h).2
    rw [List.map_cons, List.map_cons, List.sum_cons]
    unfold wsum
    cases hb : Nat.beq v.1 1 with
    | true =>
      have h1 := lv_cat (cz ev ad v)
      show _ ≤ 2 + wsum r
      omega
    | false =>
      have h1 := cz_cat (ad := ad) (wfL_c.mp h).1 (fun q => by rw [q] at hb; cases hb) he
      show _ ≤ 1 + wsum r
      omega
theorem swP_T {x : Int} {d : Nat} {G : Nat → Prop} : ∀ w, swP x w d G → G (swT x w d)
  | [], h => h
  | (k, t) :: w, h => by
    unfold swT
    by_cases e : x = k
    · rw [if_pos e]; exact h.1 e
    · rw [if_neg e]; exact swP_T w (h.2 e)
theorem swT_out {x lo hi : Int} {d : Nat} (hx : x < lo ∨ hi < x) : ∀ w : List (Int × Nat), (∀ q ∈ w, lo ≤ q.1 ∧ q.1 ≤ hi) → swT x w d = d
  | [], _ => rfl
  | (k, t) :: w, h => by
    unfold swT
    have := h (k, t) List.mem_cons_self
    rw [if_neg (by dsimp only at this; omega)]
    exact swT_out hx w (fun q hq => h q (List.mem_cons_of_mem _ hq))
theorem swT_l {x : Int} {pc b : Nat} {d : Int} (hd : (pc : Int) + d = b) : ∀ (ps : List (Int × Int)) (w : List (Int × Nat)), ps.map (fun q => (q.1, (pc : Int) + q.2)) = w.map (fun q => (q.1, (q.2 : Int))) → (pc : Int) + Op.lookupswitch.offset ps d x = (swT x w b : Nat)
  | [], [], _ => hd
  | (k, t) :: ps, (k2, t2) :: w, h => by
    rw [List.map_cons, List.map_cons, List.cons.injEq, Prod.mk.injEq] at h
    obtain ⟨⟨h1, h2⟩, h3⟩ := h
    dsimp only at h1 h2
    rw [Op.lookupswitch.offset_cons]
    unfold swT
    by_cases e : k = x
    · rw [if_pos e, if_pos (by rw [← h1]; exact e.symm)]; exact h2
    · rw [if_neg e, if_neg (by rw [← h1]; exact fun q => e q.symm)]
      exact swT_l hd ps w h3
  | [], _ :: _, h => by cases h
  | _ :: _, [], h => by cases h
theorem cpy_w : nativeFrameWords "java/lang/System" "arraycopy" 5 ≤ 40 := by decide +kernel
section SIM
variable {p : Program} {l : Launch} {e : Env} {Rm : Room} {s : State} {m : MethodId} {args : Array Value} {below : List Frame} {meth : Method} {c : Code} {Qf : State → Prop} {D : va_G} {cA : Nat → ClassId} {ev : Ev} {base : Nat} {LG : List Nat} {ad0 : Nat → Nat} {N0 c0 s0 mc ms : Nat} {L : Int} {xs : Int → Int} {mi pc len cp wi a b : Nat} {y z : Int} {w : List (Int × Nat)} {ls st : List Vv} {F A R : Fn2} {Y : Yy}
theorem sim_62 (hF : FXz p s m args meth c D cA ev base L xs mi) (hd : dkI mi pc (.goto ((b : Int) - pc)) 3 = true) (hh : SK p l e Rm s m args below meth c Qf D cA ev base LG ad0 N0 c0 s0 mc ms b ls st F A R Y) : SK p l e Rm s m args below meth c Qf D cA ev base LG ad0 N0 c0 s0 mc ms pc ls st F A R Y := by
  intro hw hl hs hlg hn h1 h2 h3 h4 h5 ad H locs lsC hA hP hD hS hLV
  obtain ⟨hx, hb, hml, hown, hts, hK, hbs, hin, hFG⟩ := hF
  exact lv_goto hx hb (dk hd) (by omega) (hh hw hl hs hlg hn h1 h2 h3 h4 h5 ad H locs lsC hA hP hD hS hLV)

theorem sim_63 (hF : FXz p s m args meth c D cA ev base L xs mi) (ha : a < 6) (hd : dkI mi pc (.ifCond (ifc a) ((b : Int) - pc)) 3 = true) (hh : pI st fun x r => (cmpB a x 0 → SK p l e Rm s m args below meth c Qf D cA ev base LG ad0 N0 c0 s0 mc ms b ls r F A R Y) ∧ (¬ cmpB a x 0 → SK p l e Rm s m args below meth c Qf D cA ev base LG ad0 N0 c0 s0 mc ms (pc + 3) ls r F A R Y)) : SK p l e Rm s m args below meth c Qf D cA ev base LG ad0 N0 c0 s0 mc ms pc ls st F A R Y := by
  intro hw hl hs hlg hn h1 h2 h3 h4 h5 ad H locs lsC hA hP hD hS hLV
  obtain ⟨hx, hb, hml, hown, hts, hK, hbs, hin, hFG⟩ := hF
  obtain ⟨x, r, rfl, h⟩ := pI_e hh
  have hp : R32 x := (wfL_c.mp hs).1
  have kt := fun q => h.1 q hw hl (wfL_c.mp hs).2 hlg hn h1 h2 h3 h4 h5 ad H locs lsC hA hP hD hS hLV
  have kf := fun q => h.2 q hw hl (wfL_c.mp hs).2 hlg hn h1 h2 h3 h4 h5 ad H locs lsC hA hP hD hS hLV
  have hd := dk hd
  rcases (show a = 0 ∨ a = 1 ∨ a = 2 ∨ a = 3 ∨ a = 4 ∨ a = 5 by omega) with rfl | rfl | rfl | rfl | rfl | rfl
  · exact lv_if_eq (tgt := b) hx hb hd (by omega) (fun q => kt ((o32_eq hp R32_0).mp q)) (fun q => kf (fun z => q ((o32_eq hp R32_0).mpr z)))
  · exact lv_if_ne (tgt := b) hx hb hd (by omega) (fun q => kt (fun z => q ((o32_eq hp R32_0).mpr z))) (fun q => kf (fun z => z ((o32_eq hp R32_0).mp q)))
  · exact lv_if_lt (tgt := b) hx hb hd (by omega) (fun q => kt ((o32_lt hp R32_0).mp q)) (fun q => kf (fun z => q ((o32_lt hp R32_0).mpr z)))
  · exact lv_if_ge (tgt := b) hx hb hd (by omega) (fun q => kt (by have := (o32_le R32_0 hp).mp q; show ¬ x < 0; omega)) (fun q => kf (fun z => q ((o32_le R32_0 hp).mpr (by have : ¬ x < 0 := z; omega))))
  · exact lv_if_gt (tgt := b) hx hb hd (by omega) (fun q => kt ((o32_lt R32_0 hp).mp q)) (fun q => kf (fun z => q ((o32_lt R32_0 hp).mpr z)))
  · exact lv_if_le (tgt := b) hx hb hd (by omega) (fun q => kt (by have := (o32_le hp R32_0).mp q; show ¬ 0 < x; omega)) (fun q => kf (fun z => q ((o32_le hp R32_0).mpr (by have : ¬ 0 < x := z; omega))))

theorem sim_64 (hF : FXz p s m args meth c D cA ev base L xs mi) (ha : a < 6) (hd : dkI mi pc (.if_icmp (ifc a) ((b : Int) - pc)) 3 = true) (hh : pI st fun q r => pI r fun p1 r => (cmpB a p1 q → SK p l e Rm s m args below meth c Qf D cA ev base LG ad0 N0 c0 s0 mc ms b ls r F A R Y) ∧ (¬ cmpB a p1 q → SK p l e Rm s m args below meth c Qf D cA ev base LG ad0 N0 c0 s0 mc ms (pc + 3) ls r F A R Y)) : SK p l e Rm s m args below meth c Qf D cA ev base LG ad0 N0 c0 s0 mc ms pc ls st F A R Y := by
  intro hw hl hs hlg hn h1 h2 h3 h4 h5 ad H locs lsC hA hP hD hS hLV
  obtain ⟨hx, hb, hml, hown, hts, hK, hbs, hin, hFG⟩ := hF
  obtain ⟨x2, r1, rfl, k1⟩ := pI_e hh
  obtain ⟨x, r, rfl, h⟩ := pI_e k1
  have hq : R32 x2 := (wfL_c.mp hs).1
  have hp : R32 x := (wfL_c.mp (wfL_c.mp hs).2).1
  have kt := fun q => h.1 q hw hl (wfL_c.mp (wfL_c.mp hs).2).2 hlg hn h1 h2 h3 h4 h5 ad H locs lsC hA hP hD hS hLV
  have kf := fun q => h.2 q hw hl (wfL_c.mp (wfL_c.mp hs).2).2 hlg hn h1 h2 h3 h4 h5 ad H locs lsC hA hP hD hS hLV
  have hd := dk hd
  rcases (show a = 0 ∨ a = 1 ∨ a = 2 ∨ a = 3 ∨ a = 4 ∨ a = 5 by omega) with rfl | rfl | rfl | rfl | rfl | rfl
  · exact lv_icmp_eq (tgt := b) hx hb hd (by omega) (fun q => kt ((o32_eq hp hq).mp q)) (fun q => kf (fun z => q ((o32_eq hp hq).mpr z)))
  · exact lv_icmp_ne (tgt := b) hx hb hd (by omega) (fun q => kt (fun z => q ((o32_eq hp hq).mpr z))) (fun q => kf (fun z => z ((o32_eq hp hq).mp q)))
  · exact lv_icmp_lt (tgt := b) hx hb hd (by omega) (fun q => kt ((o32_lt hp hq).mp q)) (fun q => kf (fun z => q ((o32_lt hp hq).mpr z)))
  · exact lv_icmp_ge (tgt := b) hx hb hd (by omega) (fun q => kt (by have := (o32_le hq hp).mp q; show ¬ x < x2; omega)) (fun q => kf (fun z => q ((o32_le hq hp).mpr (by have : ¬ x < x2 := z; omega))))
  · exact lv_icmp_gt (tgt := b) hx hb hd (by omega) (fun q => kt ((o32_lt hq hp).mp q)) (fun q => kf (fun z => q ((o32_lt hq hp).mpr z)))
  · exact lv_icmp_le (tgt := b) hx hb hd (by omega) (fun q => kt (by have := (o32_le hp hq).mp q; show ¬ x2 < x; omega)) (fun q => kf (fun z => q ((o32_le hp hq).mpr (by have : ¬ x2 < x := z; omega))))

theorem sim_65 (hF : FXz p s m args meth c D cA ev base L xs mi) (hd : okSw pc b w len (decode (byOf mi) pc) = true) (hh : pI st fun x r => swP x w b fun t => SK p l e Rm s m args below meth c Qf D cA ev base LG ad0 N0 c0 s0 mc ms t ls r F A R Y) : SK p l e Rm s m args below meth c Qf D cA ev base LG ad0 N0 c0 s0 mc ms pc ls st F A R Y := by
  intro hw hl hs hlg hn h1 h2 h3 h4 h5 ad H locs lsC hA hP hD hS hLV
  obtain ⟨hx, hb, hml, hown, hts, hK, hbs, hin, hFG⟩ := hF
  obtain ⟨x, r, rfl, h⟩ := pI_e hh
  have hp : R32 x := (wfL_c.mp hs).1
  have k := swP_T w h hw hl (wfL_c.mp hs).2 hlg hn h1 h2 h3 h4 h5 ad H locs lsC hA hP hD hS hLV
  unfold okSw at hd
  split at hd
  · rename_i d lo hi offs n hdec
    simp only [Bool.and_eq_true, decide_eq_true_eq, List.all_eq_true] at hd
    obtain ⟨-, hb1, hsz, hin1, hall⟩ := hd
    by_cases ho : x < lo ∨ hi < x
    · rw [swT_out ho w hin1] at k
      exact lv_tableOut (tgt := b) hx hb hdec (by rw [o32 hp]; exact ho) hb1 k
    · have hi1 : (x - lo).toNat < offs.size := by omega
      have hq := hall (x - lo).toNat (List.mem_range.mpr hi1)
      rw [Int.toNat_of_nonneg (by omega), show lo + (x - lo) = x by omega] at hq
      refine lv_tableIn (tgt := swT x w b) (off := offs.getD (x - lo).toNat 0) hx hb hdec (by rw [o32 hp]; omega) (by rw [o32 hp]; omega) ?_ hq k
      rw [o32 hp, Array.getD_eq_getD_getElem?, Array.getElem?_eq_getElem hi1]; rfl
  · rename_i d ps n hdec
    simp only [Bool.and_eq_true, decide_eq_true_eq] at hd
    obtain ⟨-, hb1, hso, hmap⟩ := hd
    refine lv_lookup (tgt := swT x w b) hx hb hdec hso rfl ?_ k
    rw [o32 hp]
    exact swT_l hb1 ps.toList w hmap
  · cases hd

theorem gw_min : Cond.static Lib.Math.min.name ∈ GW ∧ Cond.code Lib.Math.min.name Lib.Math.min.code 2 (some .int) ∈ GW ∧ Cond.initialized "java/lang/Math" ∈ GW := ⟨wG (List.mem_of_getElem? (i := 625) (by decide +kernel)) rfl, wG (List.mem_of_getElem? (i := 626) (by decide +kernel)) rfl, wG (List.mem_of_getElem? (i := 113) (by decide +kernel)) rfl⟩
theorem gw_max : Cond.static Lib.Math.max.name ∈ GW ∧ Cond.code Lib.Math.max.name Lib.Math.max.code 2 (some .int) ∈ GW := ⟨wG (List.mem_of_getElem? (i := 717) (by decide +kernel)) rfl, wG (List.mem_of_getElem? (i := 718) (by decide +kernel)) rfl⟩
theorem gw_abs : Cond.static Lib.Math.abs.name ∈ GW ∧ Cond.code Lib.Math.abs.name Lib.Math.abs.code 1 (some .int) ∈ GW := ⟨wG (List.mem_of_getElem? (i := 1074) (by decide +kernel)) rfl, wG (List.mem_of_getElem? (i := 1075) (by decide +kernel)) rfl⟩
theorem gw_obj : Cond.instanceMethod objectInit ∈ GW ∧ Cond.code objectInit ⟨#[0xb1]⟩ 1 none ∈ GW := ⟨wG (List.mem_of_getElem? (i := 127) (by decide +kernel)) rfl, wG (List.mem_of_getElem? (i := 128) (by decide +kernel)) rfl⟩
theorem gw_cpy : Cond.native arraycopyName ∈ GW ∧ Cond.static arraycopyName ∈ GW ∧ Cond.initialized "java/lang/System" ∈ GW := ⟨wG (List.mem_of_getElem? (i := 886) (by decide +kernel)) rfl, wG (List.mem_of_getElem? (i := 885) (by decide +kernel)) rfl, wG (List.mem_of_getElem? (i := 120) (by decide +kernel)) rfl⟩
theorem cond_e {q : Bool} {P : Prop} (h : cond q P False) : q = true ∧ P := by
  cases q
  · exact h.elim
  · exact ⟨rfl, h⟩
theorem o32_min {p q : Int} (hp : R32 p) (hq : R32 q) : (if Int32.ofInt q < Int32.ofInt p then Int32.ofInt q else Int32.ofInt p) = Int32.ofInt (min p q) ∧ R32 (min p q) := by
  by_cases h : q < p
  · rw [if_pos ((o32_lt hq hp).mpr h), show min p q = q by omega]; exact ⟨rfl, hq⟩
  · rw [if_neg (fun z => h ((o32_lt hq hp).mp z)), show min p q = p by omega]; exact ⟨rfl, hp⟩
theorem sim_68 (hF : FXz p s m args meth c D cA ev base L xs mi) (hRm : 1 ≤ Rm.frames ∧ 60 ≤ Rm.locals ∧ mc ≤ Rm.cells ∧ ms ≤ Rm.slots) (hd : dkI mi pc (.invokestatic cp) 3 = true) (hlk : Cond.methodLink (nmOf mi).cls cp Lib.Math.min.name ∈ GW) (hh : pI st fun q r => pI r fun p1 r => cond (Nat.ble (wsum r) 8) (SK p l e Rm s m args below meth c Qf D cA ev base LG ad0 N0 c0 s0 mc ms (pc + 3) ls ((0, min p1 q) :: r) F A R Y) False) : SK p l e Rm s m args below meth c Qf D cA ev base LG ad0 N0 c0 s0 mc ms pc ls st F A R Y := by
  intro hw hl hs hlg hn h1 h2 h3 h4 h5 ad H locs lsC hA hP hD hS hLV
  obtain ⟨hx, hb, hml, hown, hts, hK, hbs, hin, hFG⟩ := hF
  obtain ⟨q, r1, rfl, k1⟩ := pI_e hh
  obtain ⟨p1, r, rfl, k2⟩ := pI_e k1
  obtain ⟨hwk, h⟩ := cond_e k2
  have hwk := Nat.le_of_ble_eq_true hwk
  have hq : R32 q := (wfL_c.mp hs).1
  have hp : R32 p1 := (wfL_c.mp (wfL_c.mp hs).2).1
  have hsm := wsum_s (ad := ad) hFG.2.2.2.2.2.2.2.2.1 r (wfL_c.mp (wfL_c.mp hs).2).2
  refine va_mmin hx hb (by rw [hLV.1]; exact hn.symm) hown (hts _ hlk) (hts _ gw_min.1) (hts _ gw_min.2.2) (hts _ gw_min.2.1) hRm.1 (by omega) (by omega) (by omega) (dk hd) ?_
  rw [(o32_min hp hq).1]
  exact h hw hl (wfL_c.mpr ⟨(o32_min hp hq).2, (wfL_c.mp (wfL_c.mp hs).2).2⟩) hlg hn h1 h2 h3 h4 h5 ad H locs lsC hA hP hD hS hLV

theorem o32_max {p q : Int} (hp : R32 p) (hq : R32 q) : (if Int32.ofInt p < Int32.ofInt q then Int32.ofInt q else Int32.ofInt p) = Int32.ofInt (max p q) ∧ R32 (max p q) := by
  by_cases h : p < q
  · rw [if_pos ((o32_lt hp hq).mpr h), show max p q = q by omega]; exact ⟨rfl, hq⟩
  · rw [if_neg (fun z => h ((o32_lt hp hq).mp z)), show max p q = p by omega]; exact ⟨rfl, hp⟩
theorem sim_69 (hF : FXz p s m args meth c D cA ev base L xs mi) (hRm : 1 ≤ Rm.frames ∧ 60 ≤ Rm.locals ∧ mc ≤ Rm.cells ∧ ms ≤ Rm.slots) (hd : dkI mi pc (.invokestatic cp) 3 = true) (hlk : Cond.methodLink (nmOf mi).cls cp Lib.Math.max.name ∈ GW) (hh : pI st fun q r => pI r fun p1 r => cond (Nat.ble (wsum r) 8) (SK p l e Rm s m args below meth c Qf D cA ev base LG ad0 N0 c0 s0 mc ms (pc + 3) ls ((0, max p1 q) :: r) F A R Y) False) : SK p l e Rm s m args below meth c Qf D cA ev base LG ad0 N0 c0 s0 mc ms pc ls st F A R Y := by
  intro hw hl hs hlg hn h1 h2 h3 h4 h5 ad H locs lsC hA hP hD hS hLV
  obtain ⟨hx, hb, hml, hown, hts, hK, hbs, hin, hFG⟩ := hF
  obtain ⟨q, r1, rfl, k1⟩ := pI_e hh
  obtain ⟨p1, r, rfl, k2⟩ := pI_e k1
  obtain ⟨hwk, h⟩ := cond_e k2
  have hwk := Nat.le_of_ble_eq_true hwk
  have hq : R32 q := (wfL_c.mp hs).1
  have hp : R32 p1 := (wfL_c.mp (wfL_c.mp hs).2).1
  have hsm := wsum_s (ad := ad) hFG.2.2.2.2.2.2.2.2.1 r (wfL_c.mp (wfL_c.mp hs).2).2
  refine va_mmax hx hb (by rw [hLV.1]; exact hn.symm) hown (hts _ hlk) (hts _ gw_max.1) (hts _ gw_min.2.2) (hts _ gw_max.2) hRm.1 (by omega) (by omega) (by omega) (dk hd) ?_
  rw [(o32_max hp hq).1]
  exact h hw hl (wfL_c.mpr ⟨(o32_max hp hq).2, (wfL_c.mp (wfL_c.mp hs).2).2⟩) hlg hn h1 h2 h3 h4 h5 ad H locs lsC hA hP hD hS hLV

theorem sim_70 (hF : FXz p s m args meth c D cA ev base L xs mi) (hRm : 1 ≤ Rm.frames ∧ 60 ≤ Rm.locals ∧ mc ≤ Rm.cells ∧ ms ≤ Rm.slots) (hd : dkI mi pc (.invokestatic cp) 3 = true) (hlk : Cond.methodLink (nmOf mi).cls cp Lib.Math.abs.name ∈ GW) (hh : pI st fun p1 r => cond (Nat.ble (wsum r) 8) (R32 (-p1) ∧ SK p l e Rm s m args below meth c Qf D cA ev base LG ad0 N0 c0 s0 mc ms (pc + 3) ls ((0, if p1 < 0 then -p1 else p1) :: r) F A R Y) False) : SK p l e Rm s m args below meth c Qf D cA ev base LG ad0 N0 c0 s0 mc ms pc ls st F A R Y := by
  intro hw hl hs hlg hn h1 h2 h3 h4 h5 ad H locs lsC hA hP hD hS hLV
  obtain ⟨hx, hb, hml, hown, hts, hK, hbs, hin, hFG⟩ := hF
  obtain ⟨p1, r, rfl, k2⟩ := pI_e hh
  obtain ⟨hwk, g0, h⟩ := cond_e k2
  have hwk := Nat.le_of_ble_eq_true hwk
  have hp : R32 p1 := (wfL_c.mp hs).1
  have hsm := wsum_s (ad := ad) hFG.2.2.2.2.2.2.2.2.1 r (wfL_c.mp hs).2
  refine va_mabs hx hb (by rw [hLV.1]; exact hn.symm) hown (hts _ hlk) (hts _ gw_abs.1) (hts _ gw_min.2.2) (hts _ gw_abs.2) hRm.1 (by omega) (by omega) (by omega) (dk hd) ?_
  have hab : (if 0 ≤ Int32.ofInt p1 then Int32.ofInt p1 else 0 - Int32.ofInt p1) = Int32.ofInt (if p1 < 0 then -p1 else p1) ∧ R32 (if p1 < 0 then -p1 else p1) := by
    rw [show (0 : Int32) = Int32.ofInt 0 from rfl]
    by_cases q : p1 < 0
    · rw [if_neg (fun z => absurd ((o32_le R32_0 hp).mp z) (by omega)), if_pos q]
      exact ⟨by rw [← Int32.ofInt_sub, Int.zero_sub], g0⟩
    · rw [if_pos ((o32_le R32_0 hp).mpr (by omega)), if_neg q]
      exact ⟨rfl, hp⟩
  rw [hab.1]
  exact h hw hl (wfL_c.mpr ⟨hab.2, (wfL_c.mp hs).2⟩) hlg hn h1 h2 h3 h4 h5 ad H locs lsC hA hP hD hS hLV

theorem sim_82 (hF : FXz p s m args meth c D cA ev base L xs mi) (hRm : 1 ≤ Rm.frames ∧ 60 ≤ Rm.locals ∧ mc ≤ Rm.cells ∧ ms ≤ Rm.slots) (hd : dkI mi pc (.invokespecial cp) 3 = true) (hlk : Cond.methodLink (nmOf mi).cls cp objectInit ∈ GW)  (hh : pA st fun o r => cond (Nat.ble (wsum r) 8) (0 ≤ o ∧ SK p l e Rm s m args below meth c Qf D cA ev base LG ad0 N0 c0 s0 mc ms (pc + 3) ls r F A R Y) False) : SK p l e Rm s m args below meth c Qf D cA ev base LG ad0 N0 c0 s0 mc ms pc ls st F A R Y := by
  intro hw hl hs hlg hn h1 h2 h3 h4 h5 ad H locs lsC hA hP hD hS hLV
  obtain ⟨hx, hb, hml, hown, hts, hK, hbs, hin, hFG⟩ := hF
  obtain ⟨x, r, rfl, k2⟩ := pA_e hh
  obtain ⟨hwk, g0, h⟩ := cond_e k2
  have hwk := Nat.le_of_ble_eq_true hwk
  have hsm := wsum_s (ad := ad) hFG.2.2.2.2.2.2.2.2.1 r (wfL_c.mp hs).2
  have k := h hw hl (wfL_c.mp hs).2 hlg hn h1 h2 h3 h4 h5 ad H locs lsC hA hP hD hS hLV
  have e0 : cz ev ad (2, x) = .ref (ad x.toNat) := by show va_rf (ro ad x) = _; unfold ro; rw [if_neg (by omega)]; rfl
  show W p l e Rm s m args below meth c H locs (Y.2.2.2.1 - c0) (Y.2.2.2.2 - s0) Qf (F0 m pc lsC (cz ev ad (2, x) :: r.map (cz ev ad)))
  rw [e0]
  exact W.objInit hx hb hown (hts _ hlk) (hts _ gw_obj.1) (hts _ gw_obj.2) rfl (by show lsC.size = _; rw [hLV.1]; exact hn) rfl (dk hd) hRm.1 (by show 2 * 0 + _ + 12 ≤ _; omega) k

theorem sim_80 (hF : FXz p s m args meth c D cA ev base L xs mi) (hd : dkI mi pc .iaload 1 = true) (hh : pI st fun i r => pT 5 r fun _ r => 0 ≤ i ∧ i < L ∧ SK p l e Rm s m args below meth c Qf D cA ev base LG ad0 N0 c0 s0 mc ms (pc + 1) ls ((0, xs i) :: r) F A R Y) : SK p l e Rm s m args below meth c Qf D cA ev base LG ad0 N0 c0 s0 mc ms pc ls st F A R Y := by
  intro hw hl hs hlg hn h1 h2 h3 h4 h5 ad H locs lsC hA hP hD hS hLV
  obtain ⟨hx, hb, hml, hown, hts, hK, hbs, hin, hFG⟩ := hF
  obtain ⟨ix, r1, rfl, k1⟩ := pI_e hh
  obtain ⟨x, r, rfl, g0, g1, h⟩ := pT_e k1
  have hix : R32 ix := (wfL_c.mp hs).1
  refine va_sld hx hb hFG.1 hFG.2.1 (by have := hFG.2.2.1; omega) hS (o32_in hix g0 g1) (dk hd) ?_
  rw [o32_cl hix]
  rw [Int.toNat_of_nonneg g0]
  exact h hw hl (wfL_c.mpr ⟨hFG.2.2.2.2.2.2.2.2.2.2.2.2.2.2 ix g0 g1, (wfL_c.mp (wfL_c.mp hs).2).2⟩) hlg hn h1 h2 h3 h4 h5 ad H locs lsC hA hP hD hS hLV

theorem sim_81 (hF : FXz p s m args meth c D cA ev base L xs mi) (hd : dkI mi pc .arraylength 1 = true) (hh : pT 5 st fun _ r => SK p l e Rm s m args below meth c Qf D cA ev base LG ad0 N0 c0 s0 mc ms (pc + 1) ls ((0, L) :: r) F A R Y) : SK p l e Rm s m args below meth c Qf D cA ev base LG ad0 N0 c0 s0 mc ms pc ls st F A R Y := by
  intro hw hl hs hlg hn h1 h2 h3 h4 h5 ad H locs lsC hA hP hD hS hLV
  obtain ⟨hx, hb, hml, hown, hts, hK, hbs, hin, hFG⟩ := hF
  obtain ⟨x, r, rfl, h⟩ := pT_e hh
  have g0 := hFG.2.2.2.2.2.2.2.2.2.2.2.2.1
  have g1 := hFG.2.2.2.2.2.2.2.2.2.2.2.2.2.1
  refine va_slen hx hb hFG.1 hFG.2.1 (by have := hFG.2.2.1; omega) hS (dk hd) ?_
  rw [show Int32.ofNat L.toNat = Int32.ofInt L by rw [← Int32.ofInt_eq_ofNat, Int.toNat_of_nonneg g0]]
  exact h hw hl (wfL_c.mpr ⟨⟨by show _ ≤ L; omega, by show L ≤ _; omega⟩, (wfL_c.mp hs).2⟩) hlg hn h1 h2 h3 h4 h5 ad H locs lsC hA hP hD hS hLV

theorem sim_71 (hF : FXz p s m args meth c D cA ev base L xs mi) (hRm : 1 ≤ Rm.frames ∧ 60 ≤ Rm.locals ∧ mc ≤ Rm.cells ∧ ms ≤ Rm.slots) (hd : dkI mi pc (.invokestatic cp) 3 = true) (hlk : Cond.methodLink (nmOf mi).cls cp arraycopyName ∈ GW) (hh : pI st fun n r => pI r fun dp r => pA r fun d r => pI r fun sp r => pA r fun o r => cond (Nat.ble (wsum r) 8) (Y.1 o = 0 ∧ Y.1 d = 0 ∧ 0 ≤ n ∧ 0 ≤ sp ∧ 0 ≤ dp ∧ sp + n ≤ Y.2.1 o ∧ dp + n ≤ Y.2.1 d ∧ SK p l e Rm s m args below meth c Qf D cA ev base LG ad0 N0 c0 s0 mc ms (pc + 3) ls r F (up2 A d (cpy (A o) (A d) sp dp n)) R Y) False) : SK p l e Rm s m args below meth c Qf D cA ev base LG ad0 N0 c0 s0 mc ms pc ls st F A R Y := by
  intro hw hl hs hlg hn h1 h2 h3 h4 h5 ad H locs lsC hA hP hD hS hLV
  obtain ⟨hx, hb, hml, hown, hts, hK, hbs, hin, hFG⟩ := hF
  obtain ⟨n, r1, rfl, k1⟩ := pI_e hh
  obtain ⟨dp, r2, rfl, k2⟩ := pI_e k1
  obtain ⟨xd, r3, rfl, k3⟩ := pA_e k2
  obtain ⟨sp, r4, rfl, k4⟩ := pI_e k3
  obtain ⟨xo, r, rfl, k5⟩ := pA_e k4
  obtain ⟨hwk, h9, h8, g0, g1, g2, g3, g4, h⟩ := cond_e k5
  have hwk := Nat.le_of_ble_eq_true hwk
  obtain ⟨i, rfl, hi⟩ := wf_obj hw h9 (by decide)
  obtain ⟨d, rfl, hid⟩ := wf_obj hw h8 (by decide)
  have hs2 := (wfL_c.mp hs).2
  have hs3 := (wfL_c.mp hs2).2
  have hs4 := (wfL_c.mp hs3).2
  have hs5 := (wfL_c.mp hs4).2
  have hs6 := (wfL_c.mp hs5).2
  have hn1 : R32 n := (wfL_c.mp hs).1
  have hdp : R32 dp := (wfL_c.mp hs2).1
  have hsp : R32 sp := (wfL_c.mp hs4).1
  have hsm := wsum_s (ad := ad) hFG.2.2.2.2.2.2.2.2.1 r hs6
  have he := wld_at (cA := cA) (ad := ad) (F := F) (A := A) (R := R) hi
  rw [ce_a h9 (by decide)] at he
  have hed := wld_at (cA := cA) (ad := ad) (F := F) (A := A) (R := R) hid
  rw [ce_a h8 (by decide)] at hed
  show W p l e Rm s m args below meth c H locs (Y.2.2.2.1 - c0) (Y.2.2.2.2 - s0) Qf (F0 m pc lsC (.int (Int32.ofInt n) :: .int (Int32.ofInt dp) :: va_rf (ro ad (d : Int)) :: .int (Int32.ofInt sp) :: va_rf (ro ad (i : Int)) :: r.map (cz ev ad)))
  rw [ro_c, ro_c]
  have hng : ∀ {q : Int}, R32 q → 0 ≤ q → ¬ Int32.ofInt q < 0 := fun hq h0 z => absurd ((o32_lt hq R32_0).mp z) (by omega)
  have hset : (wld cA ad F A R Y).set d (ad d, .inl (cA 0, (Y.2.1 (d : Int)).toNat, .inl (va_cpy (fun j => Int32.ofInt (A i j)) (fun j => Int32.ofInt (A d j)) (Int32.ofInt sp).toNatClampNeg (Int32.ofInt dp).toNatClampNeg (Int32.ofInt n).toNatClampNeg))) = wld cA ad F (up2 A d (cpy (A i) (A d) sp dp n)) R Y := by
    refine wld_set hid ?_ (fun j hj => ce_cg rfl (by unfold up2; rw [if_neg (by omega)]) rfl)
    rw [ce_a h8 (by decide)]
    refine congrArg (fun f => (Sum.inl (cA 0, (Y.2.1 (d : Int)).toNat, Sum.inl f) : va_E)) (funext fun j => ?_)
    rw [o32_cl hsp, o32_cl hdp, o32_cl hn1]
    show Int32.ofInt (up2 A d (cpy (A i) (A d) sp dp n) d j) = _
    rw [up2_s]
    unfold cpy va_cpy
    by_cases q : dp ≤ (j : Int) ∧ (j : Int) < dp + n
    · rw [if_pos q, if_pos (by omega), show sp + ((j : Int) - dp) = ((sp.toNat + (j - dp.toNat) : Nat) : Int) by omega]
    · rw [if_neg q, if_neg (by omega)]
  refine va_copyi hx hb (by rw [hLV.1]; exact hn.symm) hown (hts _ hlk) (hts _ gw_cpy.1) (hts _ gw_cpy.2.1) (hts _ gw_cpy.2.2) hK hP hD hS i d 0 0 he hed rfl rfl rfl (hng hsp g1) (hng hdp g2) (hng hn1 g0) (by rw [o32_cl hsp, o32_cl hn1]; omega) (by rw [o32_cl hdp, o32_cl hn1]; omega) (fun _ _ => rfl) hRm.1 (by have := cpy_w; omega) (dk hd) (fun H1 locs1 hP1 hD1 hS1 => ?_)
  rw [hset] at hP1 hD1
  refine h (wf_A hw (a0 := (d : Int)) (fun q hq => up2_n hq) (fun j hj hj2 => ⟨fun _ => ?_, fun z => absurd z (by rw [h8]; decide)⟩)) hl hs6 hlg hn h1 h2 h3 h4 h5 ad H1 locs1 lsC hA hP1 hD1 hS1 hLV
  rw [up2_s]
  unfold cpy
  split
  · exact (hw.2.2.2.1 (i : Int) (by omega) (by omega) (by rw [h9]; decide) _ (by omega) (by omega)).1 (by rw [h9]; decide)
  · exact (hw.2.2.2.1 (d : Int) (by omega) (by omega) (by rw [h8]; decide) j hj hj2).1 (by rw [h8]; decide)

theorem sim_51a (hF : FXz p s m args meth c D cA ev base L xs mi) (hd : dkI mi pc .aaload 1 = true) (hh : pI st fun i r => pA r fun o r => Y.1 o = 5 ∧ 0 ≤ i ∧ i < Y.2.1 o ∧ ∃ q, R o i = q ∧ SK p l e Rm s m args below meth c Qf D cA ev base LG ad0 N0 c0 s0 mc ms (pc + 1) ls ((2, q) :: r) F A R Y) : SK p l e Rm s m args below meth c Qf D cA ev base LG ad0 N0 c0 s0 mc ms pc ls st F A R Y := by
  intro hw hl hs hlg hn h1 h2 h3 h4 h5 ad H locs lsC hA hP hD hS hLV
  obtain ⟨hx, hb, hml, hown, hts, hK, hbs, hin, hFG⟩ := hF
  obtain ⟨ix, r1, rfl, k1⟩ := pI_e hh
  obtain ⟨x, r, rfl, h9, g0, g1, h⟩ := pA_e k1
  obtain ⟨i, rfl, hi⟩ := wf_obj hw h9 (by decide)
  have he := wld_at (cA := cA) (ad := ad) (F := F) (A := A) (R := R) hi
  rw [ce_a h9 (by decide)] at he
  have hix : R32 ix := (wfL_c.mp hs).1
  show W p l e Rm s m args below meth c H locs (Y.2.2.2.1 - c0) (Y.2.2.2.2 - s0) Qf (F0 m pc lsC (.int (Int32.ofInt ix) :: va_rf (ro ad (i : Int)) :: r.map (cz ev ad)))
  rw [ro_c]
  have hft := hw.2.2.2.1 (i : Int) (by omega) (by omega) (by rw [h9]; decide) ix g0 g1
  obtain ⟨q, rfl, h⟩ := h
  refine W.aald (v := va_rf (ro ad (R i ((Int32.ofInt ix).toNatClampNeg : Nat)))) (ty := .array .int) hx hb (hP i _ he) ((hK.2 5 _ rfl).1 _ (fun j => va_rf (ro ad (R i j)))) rfl (fun q => by cases q) (by show ¬ (Int32.ofInt ix < 0 ∨ (arrV _ _ _).slots.size ≤ _); rw [arrV_size]; exact o32_in hix g0 g1) (by show (arrV _ _ _).slots[_]? = _; rw [arrV_read _ _ (Nat.not_le.mp fun q => o32_in hix g0 g1 (Or.inr q))]) rfl rfl (dk hd) ?_
  rw [o32_cl hix, Int.toNat_of_nonneg g0]
  exact h hw hl (wfL_c.mpr ⟨hft.2.2 (by rw [h9]; decide), (wfL_c.mp (wfL_c.mp hs).2).2⟩) hlg hn h1 h2 h3 h4 h5 ad H locs lsC hA hP hD hS hLV

theorem sim_57 (hF : FXz p s m args meth c D cA ev base L xs mi) (hd : dkI mi pc .aastore 1 = true) (hh : pA st fun v r => pI r fun i r => pA r fun o r => Y.1 o = 4 ∧ 0 ≤ i ∧ i < Y.2.1 o ∧ Y.1 v = 11 ∧ SK p l e Rm s m args below meth c Qf D cA ev base LG ad0 N0 c0 s0 mc ms (pc + 1) ls r F A (st2 R o i v) Y) : SK p l e Rm s m args below meth c Qf D cA ev base LG ad0 N0 c0 s0 mc ms pc ls st F A R Y := by
  intro hw hl hs hlg hn h1 h2 h3 h4 h5 ad H locs lsC hA hP hD hS hLV
  obtain ⟨hx, hb, hml, hown, hts, hK, hbs, hin, hFG⟩ := hF
  obtain ⟨xv, r2, rfl, k1⟩ := pA_e hh
  obtain ⟨ix, r1, rfl, k2⟩ := pI_e k1
  obtain ⟨x, r, rfl, h9, g0, g1, h8, h⟩ := pA_e k2
  obtain ⟨i, rfl, hi⟩ := wf_obj hw h9 (by decide)
  obtain ⟨v, rfl, hiv⟩ := wf_obj hw h8 (by decide)
  have he := wld_at (cA := cA) (ad := ad) (F := F) (A := A) (R := R) hi
  rw [ce_a h9 (by decide)] at he
  have hev := wld_at (cA := cA) (ad := ad) (F := F) (A := A) (R := R) hiv
  rw [ce_o (ci := 1) h8] at hev
  have hix : R32 ix := (wfL_c.mp (wfL_c.mp hs).2).1
  show W p l e Rm s m args below meth c H locs (Y.2.2.2.1 - c0) (Y.2.2.2.2 - s0) Qf (F0 m pc lsC (va_rf (ro ad (v : Int)) :: .int (Int32.ofInt ix) :: va_rf (ro ad (i : Int)) :: r.map (cz ev ad)))
  rw [ro_c, ro_c]
  have hset : (wld cA ad F A R Y).set i (ad i, .inl (cA 4, (Y.2.1 (i : Int)).toNat, .inr (.inr (.inr (.inr (va_up (fun j => ro ad (R i j)) (Int32.ofInt ix).toNatClampNeg (some (ad v)))))))) = wld cA ad F A (st2 R i ix v) Y := by
    refine wld_set hi ?_ (fun j hj => ce_cg rfl rfl (funext fun q => by rw [st2_at, if_neg (fun z => hj (by omega))]))
    rw [ce_a h9 (by decide)]
    refine congrArg (fun f => (Sum.inl (cA 4, (Y.2.1 (i : Int)).toNat, Sum.inr (Sum.inr (Sum.inr (Sum.inr f)))) : va_E)) (funext fun j => ?_)
    rw [o32_cl hix]
    show ro ad (st2 R i ix v i j) = _
    rw [st2_at]
    unfold va_up
    by_cases e1 : j = ix.toNat
    · rw [if_pos e1, if_pos ⟨rfl, by omega⟩]; unfold ro; rw [if_neg (by omega)]; rfl
    · rw [if_neg e1, if_neg (fun q => e1 (by omega))]
  refine va_astq (D := D) (r := (RX1, TX1, 9)) hx hb hK hP hD hS i 4 v 1 he rfl hev rfl (o32_in hix g0 g1) (dk hd) (fun H1 locs1 hP1 hD1 hS1 => ?_)
  rw [hset] at hP1 hD1
  exact h (wf_R hw ⟨by omega, by omega⟩) hl (wfL_c.mp (wfL_c.mp (wfL_c.mp hs).2).2).2 hlg hn h1 h2 h3 h4 h5 ad H1 locs1 lsC hA hP1 hD1 hS1 hLV

end SIM
