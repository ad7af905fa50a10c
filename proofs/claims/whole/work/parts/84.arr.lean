/-! ARRAYS -/
theorem u1_at {f : Int → Int} {i v j : Int} : u1 f i v j = if j = i then v else f j := rfl
section SIM
variable {p : Program} {l : Launch} {e : Env} {Rm : Room} {s : State} {m : MethodId} {args : Array Value} {below : List Frame} {meth : Method} {c : Code} {Qf : State → Prop} {D : va_G} {cA : Nat → ClassId} {ev : Ev} {base : Nat} {LG : List Nat} {ad0 : Nat → Nat} {N0 c0 s0 mc ms : Nat} {L : Int} {xs : Int → Int} {mi pc len cp wi a b : Nat} {y z : Int} {ls st : List Vv} {F A R : Fn2} {Y : Yy}
theorem sim_47i (hF : FXz p s m args meth c D cA ev base L xs mi) (hd : dkI mi pc .iaload 1 = true) (hh : pI st fun i r => pA r fun o r => Y.1 o = 0 ∧ 0 ≤ i ∧ i < Y.2.1 o ∧ SK p l e Rm s m args below meth c Qf D cA ev base LG ad0 N0 c0 s0 mc ms (pc + 1) ls ((0, A o i) :: r) F A R Y) : SK p l e Rm s m args below meth c Qf D cA ev base LG ad0 N0 c0 s0 mc ms pc ls st F A R Y := by
  intro hw hl hs hlg hn h1 h2 h3 h4 h5 ad H locs lsC hA hP hD hS hLV
  obtain ⟨hx, hb, hml, hown, hts, hK, hbs, hin, hFG⟩ := hF
  obtain ⟨ix, r1, rfl, k1⟩ := pI_e hh
  obtain ⟨x, r, rfl, h9, g0, g1, h⟩ := pA_e k1
  obtain ⟨i, rfl, hi⟩ := wf_obj hw h9 (by decide)
  have he := wld_at (cA := cA) (ad := ad) (F := F) (A := A) (R := R) hi
  rw [ce_a h9 (by decide)] at he
  have hix : R32 ix := (wfL_c.mp hs).1
  show W p l e Rm s m args below meth c H locs (Y.2.2.2.1 - c0) (Y.2.2.2.2 - s0) Qf (F0 m pc lsC (.int (Int32.ofInt ix) :: va_rf (ro ad (i : Int)) :: r.map (cz ev ad)))
  rw [ro_c]
  have hft := hw.2.2.2.1 (i : Int) (by omega) (by omega) (by rw [h9]; decide) ix g0 g1
  refine va_iald (D := D) hx hb hK hP i 0 he rfl (o32_in hix g0 g1) (dk hd) ?_
  rw [o32_cl hix]
  rw [Int.toNat_of_nonneg g0]
  exact h hw hl (wfL_c.mpr ⟨hft.1 (by rw [h9]; decide), (wfL_c.mp (wfL_c.mp hs).2).2⟩) hlg hn h1 h2 h3 h4 h5 ad H locs lsC hA hP hD hS hLV

theorem sim_47b (hF : FXz p s m args meth c D cA ev base L xs mi) (hd : dkI mi pc .baload 1 = true) (hh : pI st fun i r => pA r fun o r => Y.1 o = 1 ∧ 0 ≤ i ∧ i < Y.2.1 o ∧ SK p l e Rm s m args below meth c Qf D cA ev base LG ad0 N0 c0 s0 mc ms (pc + 1) ls ((0, A o i) :: r) F A R Y) : SK p l e Rm s m args below meth c Qf D cA ev base LG ad0 N0 c0 s0 mc ms pc ls st F A R Y := by
  intro hw hl hs hlg hn h1 h2 h3 h4 h5 ad H locs lsC hA hP hD hS hLV
  obtain ⟨hx, hb, hml, hown, hts, hK, hbs, hin, hFG⟩ := hF
  obtain ⟨ix, r1, rfl, k1⟩ := pI_e hh
  obtain ⟨x, r, rfl, h9, g0, g1, h⟩ := pA_e k1
  obtain ⟨i, rfl, hi⟩ := wf_obj hw h9 (by decide)
  have he := wld_at (cA := cA) (ad := ad) (F := F) (A := A) (R := R) hi
  rw [ce_a h9 (by decide)] at he
  have hix : R32 ix := (wfL_c.mp hs).1
  show W p l e Rm s m args below meth c H locs (Y.2.2.2.1 - c0) (Y.2.2.2.2 - s0) Qf (F0 m pc lsC (.int (Int32.ofInt ix) :: va_rf (ro ad (i : Int)) :: r.map (cz ev ad)))
  rw [ro_c]
  have hft := hw.2.2.2.1 (i : Int) (by omega) (by omega) (by rw [h9]; decide) ix g0 g1
  refine va_bald (D := D) hx hb hK hP i 1 he rfl (o32_in hix g0 g1) (dk hd) ?_
  rw [o32_cl hix]
  rw [Int.toNat_of_nonneg g0]
  exact h hw hl (wfL_c.mpr ⟨hft.1 (by rw [h9]; decide), (wfL_c.mp (wfL_c.mp hs).2).2⟩) hlg hn h1 h2 h3 h4 h5 ad H locs lsC hA hP hD hS hLV

theorem sim_47z (hF : FXz p s m args meth c D cA ev base L xs mi) (hd : dkI mi pc .baload 1 = true) (hh : pI st fun i r => pA r fun o r => Y.1 o = 2 ∧ 0 ≤ i ∧ i < Y.2.1 o ∧ SK p l e Rm s m args below meth c Qf D cA ev base LG ad0 N0 c0 s0 mc ms (pc + 1) ls ((0, A o i) :: r) F A R Y) : SK p l e Rm s m args below meth c Qf D cA ev base LG ad0 N0 c0 s0 mc ms pc ls st F A R Y := by
  intro hw hl hs hlg hn h1 h2 h3 h4 h5 ad H locs lsC hA hP hD hS hLV
  obtain ⟨hx, hb, hml, hown, hts, hK, hbs, hin, hFG⟩ := hF
  obtain ⟨ix, r1, rfl, k1⟩ := pI_e hh
  obtain ⟨x, r, rfl, h9, g0, g1, h⟩ := pA_e k1
  obtain ⟨i, rfl, hi⟩ := wf_obj hw h9 (by decide)
  have he := wld_at (cA := cA) (ad := ad) (F := F) (A := A) (R := R) hi
  rw [ce_a h9 (by decide)] at he
  have hix : R32 ix := (wfL_c.mp hs).1
  show W p l e Rm s m args below meth c H locs (Y.2.2.2.1 - c0) (Y.2.2.2.2 - s0) Qf (F0 m pc lsC (.int (Int32.ofInt ix) :: va_rf (ro ad (i : Int)) :: r.map (cz ev ad)))
  rw [ro_c]
  have hft := hw.2.2.2.1 (i : Int) (by omega) (by omega) (by rw [h9]; decide) ix g0 g1
  refine va_zald (D := D) hx hb hK hP i 2 he rfl (o32_in hix g0 g1) (dk hd) ?_
  rw [o32_cl hix]
  rw [Int.toNat_of_nonneg g0]
  exact h hw hl (wfL_c.mpr ⟨hft.1 (by rw [h9]; decide), (wfL_c.mp (wfL_c.mp hs).2).2⟩) hlg hn h1 h2 h3 h4 h5 ad H locs lsC hA hP hD hS hLV

theorem sim_50 (hF : FXz p s m args meth c D cA ev base L xs mi) (hd : dkI mi pc .laload 1 = true) (hh : pI st fun i r => pA r fun o r => Y.1 o = 3 ∧ 0 ≤ i ∧ i < Y.2.1 o ∧ SK p l e Rm s m args below meth c Qf D cA ev base LG ad0 N0 c0 s0 mc ms (pc + 1) ls ((1, A o i) :: r) F A R Y) : SK p l e Rm s m args below meth c Qf D cA ev base LG ad0 N0 c0 s0 mc ms pc ls st F A R Y := by
  intro hw hl hs hlg hn h1 h2 h3 h4 h5 ad H locs lsC hA hP hD hS hLV
  obtain ⟨hx, hb, hml, hown, hts, hK, hbs, hin, hFG⟩ := hF
  obtain ⟨ix, r1, rfl, k1⟩ := pI_e hh
  obtain ⟨x, r, rfl, h9, g0, g1, h⟩ := pA_e k1
  obtain ⟨i, rfl, hi⟩ := wf_obj hw h9 (by decide)
  have he := wld_at (cA := cA) (ad := ad) (F := F) (A := A) (R := R) hi
  rw [ce_a h9 (by decide)] at he
  have hix : R32 ix := (wfL_c.mp hs).1
  show W p l e Rm s m args below meth c H locs (Y.2.2.2.1 - c0) (Y.2.2.2.2 - s0) Qf (F0 m pc lsC (.int (Int32.ofInt ix) :: va_rf (ro ad (i : Int)) :: r.map (cz ev ad)))
  rw [ro_c]
  have hft := hw.2.2.2.1 (i : Int) (by omega) (by omega) (by rw [h9]; decide) ix g0 g1
  refine va_lald (D := D) hx hb hK hP i 3 he rfl (o32_in hix g0 g1) (dk hd) ?_
  rw [o32_cl hix]
  rw [Int.toNat_of_nonneg g0]
  exact h hw hl (wfL_c.mpr ⟨hft.2.1 h9, (wfL_c.mp (wfL_c.mp hs).2).2⟩) hlg hn h1 h2 h3 h4 h5 ad H locs lsC hA hP hD hS hLV

theorem sim_51q (hF : FXz p s m args meth c D cA ev base L xs mi) (hd : dkI mi pc .aaload 1 = true) (hh : pI st fun i r => pA r fun o r => Y.1 o = 4 ∧ 0 ≤ i ∧ i < Y.2.1 o ∧ ∃ q, R o i = q ∧ SK p l e Rm s m args below meth c Qf D cA ev base LG ad0 N0 c0 s0 mc ms (pc + 1) ls ((2, q) :: r) F A R Y) : SK p l e Rm s m args below meth c Qf D cA ev base LG ad0 N0 c0 s0 mc ms pc ls st F A R Y := by
  intro hw hl hs hlg hn h1 h2 h3 h4 h5 ad H locs lsC hA hP hD hS hLV
  obtain ⟨hx, hb, hml, hown, hts, hK, hbs, hin, hFG⟩ := hF
  obtain ⟨ix, r1, rfl, k1⟩ := pI_e hh
  obtain ⟨x, r, rfl, h9, g0, g1, h⟩ := pA_e k1
  obtain ⟨i, rfl, hi⟩ := wf_obj hw h9 (by decide)
  have he := wld_at (cA := cA) (ad := ad) (F := F) (A := A) (R := R) hi
  rw [ce_a h9 (by decide)] at he
  have hix : R32 ix := (wfL_c.mp hs).1
  show W p l e Rm s m args below meth c H locs (Y.2.2.2.1 - c0) (Y.2.2.2.2 - s0) Qf (F0 m pc lsC (.int (Int32.ofInt ix) :: va_rf (ro ad (i : Int)) :: r.map (cz ev ad)))
  rw [ro_c]
  have hft := hw.2.2.2.1 (i : Int) (by omega) (by omega) (by rw [h9]; decide) ix g0 g1
  obtain ⟨q, rfl, h⟩ := h
  refine va_aldq (D := D) hx hb hK hP i 4 he rfl (o32_in hix g0 g1) (dk hd) ?_
  rw [o32_cl hix]
  rw [Int.toNat_of_nonneg g0]
  exact h hw hl (wfL_c.mpr ⟨hft.2.2 (by rw [h9]; decide), (wfL_c.mp (wfL_c.mp hs).2).2⟩) hlg hn h1 h2 h3 h4 h5 ad H locs lsC hA hP hD hS hLV

theorem nar_by {v : Int} (h0 : -128 ≤ v) (h1 : v ≤ 127) : vp_nar .byte (Int32.ofInt v) = Int32.ofInt v := by
  rw [vp_nar_byte]
  apply Int32.toInt_inj.mp
  rw [Int8.toInt_toInt32, Int32.toInt_toInt8, o32 ⟨by omega, by omega⟩]
  exact Int.bmod_eq_of_le (by omega) (by omega)
theorem nar_zb {v : Int} (h0 : 0 ≤ v) (h1 : v ≤ 1) : vp_nar .boolean (Int32.ofInt v) = Int32.ofInt v := by
  unfold vp_nar; rw [(nar_b h0 h1).1]
theorem sim_53 (hF : FXz p s m args meth c D cA ev base L xs mi) (hd : dkI mi pc .iastore 1 = true) (hh : pI st fun v r => pI r fun i r => pA r fun o r => Y.1 o = 0 ∧ 0 ≤ i ∧ i < Y.2.1 o ∧ SK p l e Rm s m args below meth c Qf D cA ev base LG ad0 N0 c0 s0 mc ms (pc + 1) ls r F (st2 A o i v) R Y) : SK p l e Rm s m args below meth c Qf D cA ev base LG ad0 N0 c0 s0 mc ms pc ls st F A R Y := by
  intro hw hl hs hlg hn h1 h2 h3 h4 h5 ad H locs lsC hA hP hD hS hLV
  obtain ⟨hx, hb, hml, hown, hts, hK, hbs, hin, hFG⟩ := hF
  obtain ⟨v, r2, rfl, k1⟩ := pI_e hh
  obtain ⟨ix, r1, rfl, k2⟩ := pI_e k1
  obtain ⟨x, r, rfl, h9, g0, g1, h⟩ := pA_e k2
  obtain ⟨i, rfl, hi⟩ := wf_obj hw h9 (by decide)
  have he := wld_at (cA := cA) (ad := ad) (F := F) (A := A) (R := R) hi
  rw [ce_a h9 (by decide)] at he
  have hv : R32 v := (wfL_c.mp hs).1
  have hix : R32 ix := (wfL_c.mp (wfL_c.mp hs).2).1
  show W p l e Rm s m args below meth c H locs (Y.2.2.2.1 - c0) (Y.2.2.2.2 - s0) Qf (F0 m pc lsC (.int (Int32.ofInt v) :: .int (Int32.ofInt ix) :: va_rf (ro ad (i : Int)) :: r.map (cz ev ad)))
  rw [ro_c]
  have hup : (.inl (upd (fun j => Int32.ofInt (A i j)) (Int32.ofInt ix).toNatClampNeg (Int32.ofInt v)) : (Nat → Int32) ⊕ (Nat → Int64) ⊕ (Nat → UInt32) ⊕ (Nat → UInt64) ⊕ (Nat → Option Nat)) = ar ad 0 (st2 A i ix v) R i := by
    refine congrArg (Sum.inl) (funext fun j => ?_)
    unfold upd
    rw [o32_cl hix]
    show _ = Int32.ofInt (st2 A i ix v i j)
    rw [st2_at]
    by_cases e1 : j = ix.toNat
    · rw [if_pos e1, if_pos ⟨rfl, by omega⟩]
    · rw [if_neg e1, if_neg (fun q => e1 (by omega))]
  have hset : (wld cA ad F A R Y).set i (ad i, .inl (cA 0, (Y.2.1 (i : Int)).toNat, .inl (upd (fun j => Int32.ofInt (A i j)) (Int32.ofInt ix).toNatClampNeg (Int32.ofInt v)))) = wld cA ad F (st2 A i ix v) R Y :=
    wld_set hi (by rw [hup, ce_a h9 (by decide)]) (fun j hj => ce_cg rfl (funext fun q => by rw [st2_at, if_neg (fun z => hj (by omega))]) rfl)
  refine va_iast (D := D) hx hb hK hP hD hS i 0 he rfl (o32_in hix g0 g1) (dk hd) (fun H1 locs1 hP1 hD1 hS1 => ?_)
  rw [hset] at hP1 hD1
  exact h (wf_A hw (a0 := (i : Int)) (fun q hq => funext fun j => by rw [st2_at, if_neg (fun z => hq z.1)]) (fun j hj hj2 => by
    have q := hw.2.2.2.1 (i : Int) (by omega) (by omega) (by rw [h9]; decide) j hj hj2
    rw [st2_at]
    split
    · exact ⟨fun _ => hv, fun z => absurd z (by rw [h9]; decide)⟩
    · exact ⟨q.1, q.2.1⟩)) hl (wfL_c.mp (wfL_c.mp (wfL_c.mp hs).2).2).2 hlg hn h1 h2 h3 h4 h5 ad H1 locs1 lsC hA hP1 hD1 hS1 hLV

theorem sim_54 (hF : FXz p s m args meth c D cA ev base L xs mi) (hd : dkI mi pc .bastore 1 = true) (hh : pI st fun v r => pI r fun i r => pA r fun o r => Y.1 o = 1 ∧ 0 ≤ i ∧ i < Y.2.1 o ∧ -128 ≤ v ∧ v ≤ 127 ∧ SK p l e Rm s m args below meth c Qf D cA ev base LG ad0 N0 c0 s0 mc ms (pc + 1) ls r F (st2 A o i v) R Y) : SK p l e Rm s m args below meth c Qf D cA ev base LG ad0 N0 c0 s0 mc ms pc ls st F A R Y := by
  intro hw hl hs hlg hn h1 h2 h3 h4 h5 ad H locs lsC hA hP hD hS hLV
  obtain ⟨hx, hb, hml, hown, hts, hK, hbs, hin, hFG⟩ := hF
  obtain ⟨v, r2, rfl, k1⟩ := pI_e hh
  obtain ⟨ix, r1, rfl, k2⟩ := pI_e k1
  obtain ⟨x, r, rfl, h9, g0, g1, g2, g3, h⟩ := pA_e k2
  obtain ⟨i, rfl, hi⟩ := wf_obj hw h9 (by decide)
  have he := wld_at (cA := cA) (ad := ad) (F := F) (A := A) (R := R) hi
  rw [ce_a h9 (by decide)] at he
  have hv : R32 v := (wfL_c.mp hs).1
  have hix : R32 ix := (wfL_c.mp (wfL_c.mp hs).2).1
  show W p l e Rm s m args below meth c H locs (Y.2.2.2.1 - c0) (Y.2.2.2.2 - s0) Qf (F0 m pc lsC (.int (Int32.ofInt v) :: .int (Int32.ofInt ix) :: va_rf (ro ad (i : Int)) :: r.map (cz ev ad)))
  rw [ro_c]
  have hup : (.inl (upd (fun j => Int32.ofInt (A i j)) (Int32.ofInt ix).toNatClampNeg (vp_nar .byte (Int32.ofInt v))) : (Nat → Int32) ⊕ (Nat → Int64) ⊕ (Nat → UInt32) ⊕ (Nat → UInt64) ⊕ (Nat → Option Nat)) = ar ad 1 (st2 A i ix v) R i := by
    rw [nar_by g2 g3]; refine congrArg (Sum.inl) (funext fun j => ?_)
    unfold upd
    rw [o32_cl hix]
    show _ = Int32.ofInt (st2 A i ix v i j)
    rw [st2_at]
    by_cases e1 : j = ix.toNat
    · rw [if_pos e1, if_pos ⟨rfl, by omega⟩]
    · rw [if_neg e1, if_neg (fun q => e1 (by omega))]
  have hset : (wld cA ad F A R Y).set i (ad i, .inl (cA 1, (Y.2.1 (i : Int)).toNat, .inl (upd (fun j => Int32.ofInt (A i j)) (Int32.ofInt ix).toNatClampNeg (vp_nar .byte (Int32.ofInt v))))) = wld cA ad F (st2 A i ix v) R Y :=
    wld_set hi (by rw [hup, ce_a h9 (by decide)]) (fun j hj => ce_cg rfl (funext fun q => by rw [st2_at, if_neg (fun z => hj (by omega))]) rfl)
  refine va_bast (D := D) hx hb hK hP hD hS i 1 he rfl (o32_in hix g0 g1) (dk hd) (fun H1 locs1 hP1 hD1 hS1 => ?_)
  rw [hset] at hP1 hD1
  exact h (wf_A hw (a0 := (i : Int)) (fun q hq => funext fun j => by rw [st2_at, if_neg (fun z => hq z.1)]) (fun j hj hj2 => by
    have q := hw.2.2.2.1 (i : Int) (by omega) (by omega) (by rw [h9]; decide) j hj hj2
    rw [st2_at]
    split
    · exact ⟨fun _ => hv, fun z => absurd z (by rw [h9]; decide)⟩
    · exact ⟨q.1, q.2.1⟩)) hl (wfL_c.mp (wfL_c.mp (wfL_c.mp hs).2).2).2 hlg hn h1 h2 h3 h4 h5 ad H1 locs1 lsC hA hP1 hD1 hS1 hLV

theorem sim_55 (hF : FXz p s m args meth c D cA ev base L xs mi) (hd : dkI mi pc .bastore 1 = true) (hh : pI st fun v r => pI r fun i r => pA r fun o r => Y.1 o = 2 ∧ 0 ≤ i ∧ i < Y.2.1 o ∧ 0 ≤ v ∧ v ≤ 1 ∧ SK p l e Rm s m args below meth c Qf D cA ev base LG ad0 N0 c0 s0 mc ms (pc + 1) ls r F (st2 A o i v) R Y) : SK p l e Rm s m args below meth c Qf D cA ev base LG ad0 N0 c0 s0 mc ms pc ls st F A R Y := by
  intro hw hl hs hlg hn h1 h2 h3 h4 h5 ad H locs lsC hA hP hD hS hLV
  obtain ⟨hx, hb, hml, hown, hts, hK, hbs, hin, hFG⟩ := hF
  obtain ⟨v, r2, rfl, k1⟩ := pI_e hh
  obtain ⟨ix, r1, rfl, k2⟩ := pI_e k1
  obtain ⟨x, r, rfl, h9, g0, g1, g2, g3, h⟩ := pA_e k2
  obtain ⟨i, rfl, hi⟩ := wf_obj hw h9 (by decide)
  have he := wld_at (cA := cA) (ad := ad) (F := F) (A := A) (R := R) hi
  rw [ce_a h9 (by decide)] at he
  have hv : R32 v := (wfL_c.mp hs).1
  have hix : R32 ix := (wfL_c.mp (wfL_c.mp hs).2).1
  show W p l e Rm s m args below meth c H locs (Y.2.2.2.1 - c0) (Y.2.2.2.2 - s0) Qf (F0 m pc lsC (.int (Int32.ofInt v) :: .int (Int32.ofInt ix) :: va_rf (ro ad (i : Int)) :: r.map (cz ev ad)))
  rw [ro_c]
  have hup : (.inl (upd (fun j => Int32.ofInt (A i j)) (Int32.ofInt ix).toNatClampNeg (vp_nar .boolean (Int32.ofInt v))) : (Nat → Int32) ⊕ (Nat → Int64) ⊕ (Nat → UInt32) ⊕ (Nat → UInt64) ⊕ (Nat → Option Nat)) = ar ad 2 (st2 A i ix v) R i := by
    rw [nar_zb g2 g3]; refine congrArg (Sum.inl) (funext fun j => ?_)
    unfold upd
    rw [o32_cl hix]
    show _ = Int32.ofInt (st2 A i ix v i j)
    rw [st2_at]
    by_cases e1 : j = ix.toNat
    · rw [if_pos e1, if_pos ⟨rfl, by omega⟩]
    · rw [if_neg e1, if_neg (fun q => e1 (by omega))]
  have hset : (wld cA ad F A R Y).set i (ad i, .inl (cA 2, (Y.2.1 (i : Int)).toNat, .inl (upd (fun j => Int32.ofInt (A i j)) (Int32.ofInt ix).toNatClampNeg (vp_nar .boolean (Int32.ofInt v))))) = wld cA ad F (st2 A i ix v) R Y :=
    wld_set hi (by rw [hup, ce_a h9 (by decide)]) (fun j hj => ce_cg rfl (funext fun q => by rw [st2_at, if_neg (fun z => hj (by omega))]) rfl)
  refine va_zast (D := D) hx hb hK hP hD hS i 2 he rfl (o32_in hix g0 g1) (dk hd) (fun H1 locs1 hP1 hD1 hS1 => ?_)
  rw [hset] at hP1 hD1
  exact h (wf_A hw (a0 := (i : Int)) (fun q hq => funext fun j => by rw [st2_at, if_neg (fun z => hq z.1)]) (fun j hj hj2 => by
    have q := hw.2.2.2.1 (i : Int) (by omega) (by omega) (by rw [h9]; decide) j hj hj2
    rw [st2_at]
    split
    · exact ⟨fun _ => hv, fun z => absurd z (by rw [h9]; decide)⟩
    · exact ⟨q.1, q.2.1⟩)) hl (wfL_c.mp (wfL_c.mp (wfL_c.mp hs).2).2).2 hlg hn h1 h2 h3 h4 h5 ad H1 locs1 lsC hA hP1 hD1 hS1 hLV

theorem sim_56 (hF : FXz p s m args meth c D cA ev base L xs mi) (hd : dkI mi pc .lastore 1 = true) (hh : pL st fun v r => pI r fun i r => pA r fun o r => Y.1 o = 3 ∧ 0 ≤ i ∧ i < Y.2.1 o ∧ SK p l e Rm s m args below meth c Qf D cA ev base LG ad0 N0 c0 s0 mc ms (pc + 1) ls r F (st2 A o i v) R Y) : SK p l e Rm s m args below meth c Qf D cA ev base LG ad0 N0 c0 s0 mc ms pc ls st F A R Y := by
  intro hw hl hs hlg hn h1 h2 h3 h4 h5 ad H locs lsC hA hP hD hS hLV
  obtain ⟨hx, hb, hml, hown, hts, hK, hbs, hin, hFG⟩ := hF
  obtain ⟨v, r2, rfl, k1⟩ := pL_e hh
  obtain ⟨ix, r1, rfl, k2⟩ := pI_e k1
  obtain ⟨x, r, rfl, h9, g0, g1, h⟩ := pA_e k2
  obtain ⟨i, rfl, hi⟩ := wf_obj hw h9 (by decide)
  have he := wld_at (cA := cA) (ad := ad) (F := F) (A := A) (R := R) hi
  rw [ce_a h9 (by decide)] at he
  have hv : R64 v := (wfL_c.mp hs).1
  have hix : R32 ix := (wfL_c.mp (wfL_c.mp hs).2).1
  show W p l e Rm s m args below meth c H locs (Y.2.2.2.1 - c0) (Y.2.2.2.2 - s0) Qf (F0 m pc lsC (.long (Int64.ofInt v) :: .int (Int32.ofInt ix) :: va_rf (ro ad (i : Int)) :: r.map (cz ev ad)))
  rw [ro_c]
  have hup : (.inr (.inl (vp_updL (fun j => Int64.ofInt (A i j)) (Int32.ofInt ix).toNatClampNeg (Int64.ofInt v))) : (Nat → Int32) ⊕ (Nat → Int64) ⊕ (Nat → UInt32) ⊕ (Nat → UInt64) ⊕ (Nat → Option Nat)) = ar ad 3 (st2 A i ix v) R i := by
    refine congrArg (fun f => Sum.inr (Sum.inl f)) (funext fun j => ?_)
    unfold vp_updL
    rw [o32_cl hix]
    show _ = Int64.ofInt (st2 A i ix v i j)
    rw [st2_at]
    by_cases e1 : j = ix.toNat
    · rw [if_pos e1, if_pos ⟨rfl, by omega⟩]
    · rw [if_neg e1, if_neg (fun q => e1 (by omega))]
  have hset : (wld cA ad F A R Y).set i (ad i, .inl (cA 3, (Y.2.1 (i : Int)).toNat, .inr (.inl (vp_updL (fun j => Int64.ofInt (A i j)) (Int32.ofInt ix).toNatClampNeg (Int64.ofInt v))))) = wld cA ad F (st2 A i ix v) R Y :=
    wld_set hi (by rw [hup, ce_a h9 (by decide)]) (fun j hj => ce_cg rfl (funext fun q => by rw [st2_at, if_neg (fun z => hj (by omega))]) rfl)
  refine va_last (D := D) hx hb hK hP hD hS i 3 he rfl (o32_in hix g0 g1) (dk hd) (fun H1 locs1 hP1 hD1 hS1 => ?_)
  rw [hset] at hP1 hD1
  exact h (wf_A hw (a0 := (i : Int)) (fun q hq => funext fun j => by rw [st2_at, if_neg (fun z => hq z.1)]) (fun j hj hj2 => by
    have q := hw.2.2.2.1 (i : Int) (by omega) (by omega) (by rw [h9]; decide) j hj hj2
    rw [st2_at]
    split
    · exact ⟨fun z => absurd z (by rw [h9]; decide), fun _ => hv⟩
    · exact ⟨q.1, q.2.1⟩)) hl (wfL_c.mp (wfL_c.mp (wfL_c.mp hs).2).2).2 hlg hn h1 h2 h3 h4 h5 ad H1 locs1 lsC hA hP1 hD1 hS1 hLV

theorem sim_46 (hF : FXz p s m args meth c D cA ev base L xs mi) (ha : a < 6) (hd : dkI mi pc .arraylength 1 = true) (hh : pA st fun o r => Y.1 o = a ∧ SK p l e Rm s m args below meth c Qf D cA ev base LG ad0 N0 c0 s0 mc ms (pc + 1) ls ((0, Y.2.1 o) :: r) F A R Y) : SK p l e Rm s m args below meth c Qf D cA ev base LG ad0 N0 c0 s0 mc ms pc ls st F A R Y := by
  intro hw hl hs hlg hn h1 h2 h3 h4 h5 ad H locs lsC hA hP hD hS hLV
  obtain ⟨hx, hb, hml, hown, hts, hK, hbs, hin, hFG⟩ := hF
  obtain ⟨x, r, rfl, h9, h⟩ := pA_e hh
  obtain ⟨i, rfl, hi⟩ := wf_obj hw h9 (by omega)
  have he := wld_at (cA := cA) (ad := ad) (F := F) (A := A) (R := R) hi
  rw [ce_a h9 (by omega)] at he
  show W p l e Rm s m args below meth c H locs (Y.2.2.2.1 - c0) (Y.2.2.2.2 - s0) Qf (F0 m pc lsC (va_rf (ro ad (i : Int)) :: r.map (cz ev ad)))
  rw [ro_c]
  obtain ⟨-, hz0, hz1⟩ := hw.2.1 (i : Int) (by omega) (by omega)
  have ht : ∃ ty, (tys6 cA)[a]? = some (cA a, ty) := by
    rcases (show a = 0 ∨ a = 1 ∨ a = 2 ∨ a = 3 ∨ a = 4 ∨ a = 5 by omega) with rfl | rfl | rfl | rfl | rfl | rfl <;> exact ⟨_, rfl⟩
  obtain ⟨ty, ht⟩ := ht
  refine va_alen (D := D) hx hb hK hP i a he ht (v := Int32.ofInt (Y.2.1 (i : Int))) ?_ (dk hd) ?_
  · show Int32.ofNat (Y.2.1 (i : Int)).toNat = _
    rw [← Int32.ofInt_eq_ofNat, Int.toNat_of_nonneg hz0]
  · exact h hw hl (wfL_c.mpr ⟨⟨by show _ ≤ Y.2.1 (i : Int); omega, by show Y.2.1 (i : Int) ≤ _; omega⟩, (wfL_c.mp hs).2⟩) hlg hn h1 h2 h3 h4 h5 ad H locs lsC hA hP hD hS hLV

end SIM
