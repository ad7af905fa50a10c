/-! BOTH SIDES OF A CALL -/
theorem CB.lo {σ : Sg} {q : Int → Int} {l : Int} {F A R F' A' : Fn2} (h : CB σ q l F A R) (x : LO F A F' A') : CB σ q l F' A' R := by
  obtain ⟨h1, h2, h3, h4, h5, h6, h7, h8, h9, h10, h11, h12, h13, ⟨h14, h15, h16⟩, ⟨h17, h18, h19⟩, h20, h21⟩ := h
  have hl := h3
  unfold lawD at hl
  have xf : ∀ a f, a < 373 → F' a f = F a f := fun a f ha => by rw [(x a ha).2]
  have xa : ∀ a, a < 373 → A' a = A a := fun a ha => (x a ha).1
  refine ⟨h1, h2, h3, h4, h5, h6, fun i hi => ⟨(h7 i hi).1, ?_⟩, ?_, fun k a b => ?_, h10.of (xa _ (by omega)) (xa _ (by omega)) (xa _ (by omega)), ?_, ?_, ?_, ⟨?_, ?_, fun i a b => ?_⟩, ⟨?_, fun i a b => ?_, ?_⟩, ?_, ?_⟩
  · obtain ⟨c2, c3, c4⟩ := (h7 i hi).2
    have qi := h2.1 i (by omega) (by omega)
    unfold inQ at qi
    refine ⟨fun j a b => ?_, ?_, ?_⟩
    · rw [xa _ (by omega)]; exact c2 j a b
    · rw [xf _ _ (by omega)]; exact c3
    · rw [xf _ _ (by omega)]; exact c4
  · rw [xf _ _ (by omega)]; exact h8
  · rw [xa _ (by omega)]; exact h9 k a b
  · rw [xf _ _ (by omega)]; exact h11
  · rw [xf _ _ (by omega)]; exact h12
  · rw [xf _ _ (by omega)]; exact h13
  · rw [xf _ _ (by omega)]; exact h14
  · rw [xf _ _ (by omega)]; exact h15
  · rw [xa _ (by omega), xa _ (by omega), xa _ (by omega), xa _ (by omega)]; exact h16 i a b
  · rw [xf _ _ (by omega)]; exact h17
  · rw [xa _ (by omega), xa _ (by omega), xa _ (by omega)]; exact h18 i a b
  · rw [xa _ (by omega)]; exact h19
  · rw [xf _ _ (by omega)]; exact h20
  · rw [xf _ _ (by omega)]; exact h21
theorem CC.lo {σ : Sg} {q : Int → Int} {l : Int} {F A R F' A' : Fn2} (h : CC σ q l F A R) (x : LO F A F' A') : CC σ q l F' A' R := by
  refine h.of (fun a h1 _ _ _ h5 => (x a (by omega)).1) (fun i hi => ?_)
  unfold crs
  exact ⟨by rw [(x _ (by omega)).2], fun f => ⟨by rw [(x _ (by omega)).2], rfl⟩⟩
theorem XI.hi {σ : Sg} {b : Int → Int} {F A F' A' : Fn2} (h : XI σ b F A) (x : ∀ a, 373 ≤ a → A' a = A a ∧ F' a = F a) : XI σ b F' A' := by
  obtain ⟨h1, h2, h3, h4, h5, h6, ⟨c1, c2, c3⟩, h8, h9, h10, ⟨h11, h12, h13⟩, ⟨h14, h15⟩, h16, h17⟩ := h
  have xf : ∀ f, F' 373 f = F 373 f := fun f => by rw [(x 373 (Int.le_refl _)).2]
  have xa : ∀ a, 373 ≤ a → A' a = A a := fun a ha => (x a ha).1
  have z : ∀ i c, XL1 A i c → XL1 A' i c := fun i c hc => hc.of (xa _ (by omega)) (xa _ (by omega)) (xa _ (by omega)) (xa _ (by omega)) (xa _ (by omega))
  have e : ∀ b, RPm b A' = RPm b A := fun b => RPm_st fun a h1 h2 => xa a (by omega)
  refine ⟨h1, h2, fun i hi => ?_, ?_, ?_, fun k a b => ?_, ⟨z _ _ c1, z _ _ c2, z _ _ c3⟩, ?_, ?_, ?_, ⟨?_, ?_, fun i a b => ?_⟩, ⟨?_, fun i a b => ?_⟩, ?_, ?_⟩
  · rw [e, xa 376 (by omega)]; exact h3 i hi
  · rw [xf]; exact h4
  · rw [xf]; exact h5
  · rw [xa _ (by omega)]; exact h6 k a b
  · rw [xf]; exact h8
  · rw [xf]; exact h9
  · rw [xf]; exact h10
  · rw [xf]; exact h11
  · rw [xf]; exact h12
  · rw [xa _ (by omega), xa _ (by omega), xa _ (by omega), xa _ (by omega)]; exact h13 i a b
  · rw [xf]; exact h14
  · rw [xa _ (by omega), xa _ (by omega), xa _ (by omega)]; exact h15 i a b
  · rw [xf]; exact h16
  · rw [xf]; exact h17
theorem BoI.of {σ σ' : Sg} {F A F' A' : Fn2} (h : BoI σ F A) (h06 : σ'.1 0 6 = σ.1 0 6) (h2 : σ'.1 2 = σ.1 2) (h3 : σ'.1 3 = σ.1 3) (h4 : σ'.1 4 = σ.1 4) (h5 : σ'.1 5 = σ.1 5) (hF : ∀ f, F' 71 f = F 71 f) (hA : A' 182 = A 182 ∧ A' 183 = A 183) : BoI σ' F' A' := by
  have ec : ∀ kk, cfA σ' kk = cfA σ kk := fun kk => by unfold cfA cfS knS; rw [h06, h2, h3, h4, h5]
  have ea : ∀ kk, allS σ' kk = allS σ kk := fun kk => by unfold allS; rw [ec]
  have es : ∀ m share kk, spanS σ' m share kk = spanS σ m share kk := fun m share kk => by unfold spanS; rw [ec, ea]
  rcases h with h | ⟨rows, share, kk, a3, a4, a5, a0, a1, ar⟩
  · exact Or.inl (by rw [hF]; exact h)
  · refine Or.inr ⟨rows, share, kk, by rw [hF]; exact a3, by rw [hF]; exact a4, by rw [hF]; exact a5, by rw [hF, es]; exact a0, by rw [hF, ea]; exact a1, fun i hi => ?_⟩
    rw [hA.1, hA.2, ec, es]; exact ar i hi
theorem BoI.same {σ : Sg} {F A F' A' : Fn2} (h : BoI σ F A) (hF : ∀ f, F' 71 f = F 71 f) (hA : A' 182 = A 182 ∧ A' 183 = A 183) : BoI σ F' A' := h.of rfl rfl rfl rfl rfl hF hA
/-- all that holds between calls -/
def JX (F A R : Fn2) : Prop := ∃ (σ : Sg) (q : Int → Int) (l : Int) (b : Int → Int), SgI σ ∧ CB σ q l F A R ∧ CC σ q l F A R ∧ ShI σ F ∧ BoI σ F A ∧ XI σ b F A
theorem JX.mk {σ : Sg} {q : Int → Int} {l : Int} {b : Int → Int} {F A F1 A1 R1 F2 A2 : Fn2} (hc : CS σ q l F A F1 A1 R1) (hb : BoI σ F1 A1) (hx : XI σ b F2 A2) (lo : LO F1 A1 F2 A2) : JX F2 A2 R1 := by
  obtain ⟨c1, c2, c3, c4, c5⟩ := hc
  have xf : ∀ a f, a < 373 → F2 a f = F1 a f := fun a f ha => by rw [(lo a ha).2]
  exact ⟨σ, q, l, b, c1, c2.lo lo, c3.lo lo, c4.of (fun f _ _ => xf 0 f (by decide)) rfl rfl rfl rfl rfl rfl rfl, hb.same (fun f => xf 71 f (by decide)) ⟨(lo 182 (by decide)).1, (lo 183 (by decide)).1⟩, hx⟩
theorem LO.refl {F A : Fn2} : LO F A F A := fun _ _ => ⟨rfl, rfl⟩
theorem RF.lo {F A F' A' : Fn2} (h : RF F A F' A') : LO F A F' A' := fun a ha => ⟨h.1 a (by omega), h.2.2 a (by omega)⟩
theorem CS.refl {σ : Sg} {q : Int → Int} {l : Int} {F A R : Fn2} (hS : SgI σ) (hB : CB σ q l F A R) (hC : CC σ q l F A R) (hI : ShI σ F) : CS σ q l F A F A R := ⟨hS, hB, hC, hI, fun _ _ => ⟨rfl, rfl⟩⟩
theorem cs_cq {σ : Sg} {q : Int → Int} {l : Int} {F A R F' A' R' : Fn2} (hS : SgI σ) (hI : ShI σ F) (h : CQ σ q l F A R F' A' R') : CS σ q l F A F' A' R' := ⟨hS, h.1, h.2.1, hI.kf h.2.2.2, h.2.2.1.2.2.2.2.2⟩
theorem bo_cq {σ : Sg} {q : Int → Int} {l : Int} {F A R F' A' R' : Fn2} (hb : BoI σ F A) (h : CQ σ q l F A R F' A' R') : BoI σ F' A' := hb.same h.2.2.2.2.1 ⟨h.2.2.2.2.2 182 (by decide) (by decide), h.2.2.2.2.2 183 (by decide) (by decide)⟩
/-- the class's call, and the reference's behind it: the same answer -/
def Pair (X : Int × (Int → Int)) (mC : Nat) (aC : List Vv) (mR : Nat) (aR : List Vv) (F A R : Fn2) : Prop := ∀ K : Vv → Fn2 → Fn2 → Fn2 → Prop, (∀ z F' A' R', (∀ K2 : Vv → Fn2 → Fn2 → Fn2 → Prop, (∀ F2 A2 R2, JX F2 A2 R2 → K2 (vI z) F2 A2 R2) → Wp X 64 mR aR F' A' R' K2) → K (vI z) F' A' R') → Wp X 64 mC aC F A R K
theorem p_room {X : Int × (Int → Int)} {F A R : Fn2} {x1 x2 x3 x4 : Int} (hJ : JX F A R) : Pair X m_X10_room [vA 0, vI x1, vI x2, vI x3, vI x4] m_X11_room [vA 373, vI x1, vI x2, vI x3, vI x4] F A R := by
  obtain ⟨σ, q, l, b, hS, hB, hC, hI, hb, hX⟩ := hJ
  intro K hK
  refine c_room (k := 55) hS hB hC (fun F1 A1 R1 hq => hK _ F1 A1 R1 (fun K2 hK2 => ?_))
  exact r_room (k := 56) hq.1.1 hS (hX.hi hq.2.2.1.2.2.2.2.2) (fun F2 A2 hx rf => hK2 F2 A2 R1 (JX.mk (cs_cq hS hI hq) (bo_cq hb hq) hx rf.lo))
theorem p_book {X : Int × (Int → Int)} {F A R : Fn2} {x1 x2 x3 : Int} (hJ : JX F A R) : Pair X m_X10_book [vA 0, vI x1, vI x2, vI x3] m_X11_book [vA 373, vI x1, vI x2, vI x3] F A R := by
  obtain ⟨σ, q, l, b, hS, hB, hC, hI, hb, hX⟩ := hJ
  intro K hK
  refine c_book (k := 55) hS hB hC (fun F1 A1 R1 hq => hK _ F1 A1 R1 (fun K2 hK2 => ?_))
  exact r_book (k := 56) hq.1.1 hS (hX.hi hq.2.2.1.2.2.2.2.2) (fun F2 A2 hx rf => hK2 F2 A2 R1 (JX.mk (cs_cq hS hI hq) (bo_cq hb hq) hx rf.lo))
theorem p_plays {X : Int × (Int → Int)} {F A R : Fn2} {x1 x2 : Int} (hJ : JX F A R) : Pair X m_X10_plays [vA 0, vI x1, vI x2] m_X11_plays [vA 373, vI x1, vI x2] F A R := by
  obtain ⟨σ, q, l, b, hS, hB, hC, hI, hb, hX⟩ := hJ
  intro K hK
  refine c_plays (k := 55) hS hB hC (fun F1 A1 R1 hq => hK _ F1 A1 R1 (fun K2 hK2 => ?_))
  exact r_plays (k := 55) hq.1.1 hS (hX.hi hq.2.2.1.2.2.2.2.2) (fun F2 A2 hx rf _ => hK2 F2 A2 R1 (JX.mk (cs_cq hS hI hq) (bo_cq hb hq) hx rf.lo))
theorem p_play {X : Int × (Int → Int)} {F A R : Fn2} {x1 x2 x3 x4 : Int} (hJ : JX F A R) : Pair X m_X10_play [vA 0, vI x1, vI x2, vI x3, vI x4] m_X11_play [vA 373, vI x1, vI x2, vI x3, vI x4] F A R := by
  obtain ⟨σ, q, l, b, hS, hB, hC, hI, hb, hX⟩ := hJ
  intro K hK
  refine c_play (k := 55) hS hB hC (fun F1 A1 R1 hq => hK _ F1 A1 R1 (fun K2 hK2 => ?_))
  exact r_play (k := 54) hq.1.1 hS (hX.hi hq.2.2.1.2.2.2.2.2) (fun F2 A2 hx rf => hK2 F2 A2 R1 (JX.mk (cs_cq hS hI hq) (bo_cq hb hq) hx rf.lo))
theorem p_fits {X : Int × (Int → Int)} {F A R : Fn2} (hJ : JX F A R) : Pair X m_X10_fits [vA 0] m_X11_fits [vA 373] F A R := by
  obtain ⟨σ, q, l, b, hS, hB, hC, hI, hb, hX⟩ := hJ
  intro K hK
  refine c_fits (k := 55) hS hB hC (fun F1 A1 R1 hq => hK _ F1 A1 R1 (fun K2 hK2 => ?_))
  exact r_fits (k := 55) hq.1.1 hS (hX.hi hq.2.2.1.2.2.2.2.2) (fun F2 A2 hx rf => hK2 F2 A2 R1 (JX.mk (cs_cq hS hI hq) (bo_cq hb hq) hx rf.lo))
theorem p_thread {X : Int × (Int → Int)} {F A R : Fn2} {x1 x2 : Int} (hJ : JX F A R) : Pair X m_X10_thread [vA 0, vI x1, vI x2] m_X11_thread [vA 373, vI x1, vI x2] F A R := by
  obtain ⟨σ, q, l, b, hS, hB, hC, hI, hb, hX⟩ := hJ
  intro K hK
  refine c_thread (k := 55) hS hB hC (fun F1 A1 R1 hq => hK _ F1 A1 R1 (fun K2 hK2 => ?_))
  exact r_thread (k := 56) hq.1.1 hS (hX.hi hq.2.2.1.2.2.2.2.2) (fun F2 A2 hx rf => hK2 F2 A2 R1 (JX.mk (cs_cq hS hI hq) (bo_cq hb hq) hx rf.lo))
theorem p_stolen {X : Int × (Int → Int)} {F A R : Fn2} {x1 x2 : Int} (hJ : JX F A R) : Pair X m_X10_stolen [vA 0, vI x1, vI x2] m_X11_stolen [vA 373, vI x1, vI x2] F A R := by
  obtain ⟨σ, q, l, b, hS, hB, hC, hI, hb, hX⟩ := hJ
  intro K hK
  refine c_stolen (k := 55) hS hB hC (fun F1 A1 R1 hq => hK _ F1 A1 R1 (fun K2 hK2 => ?_))
  exact r_stolen (k := 55) hq.1.1 hS (hX.hi hq.2.2.1.2.2.2.2.2) (fun F2 A2 hx rf => hK2 F2 A2 R1 (JX.mk (cs_cq hS hI hq) (bo_cq hb hq) hx rf.lo))
theorem p_years {X : Int × (Int → Int)} {F A R : Fn2} {x1 x2 : Int} (hJ : JX F A R) : Pair X m_X10_years [vA 0, vI x1, vI x2] m_X11_years [vA 373, vI x1, vI x2] F A R := by
  obtain ⟨σ, q, l, b, hS, hB, hC, hI, hb, hX⟩ := hJ
  intro K hK
  refine c_years (k := 57) hS hB hC (fun F1 A1 R1 hq => hK _ F1 A1 R1 (fun K2 hK2 => ?_))
  exact r_years (k := 57) hq.1.1 hS (hX.hi hq.2.2.1.2.2.2.2.2) (fun F2 A2 hx rf => hK2 F2 A2 R1 (JX.mk (cs_cq hS hI hq) (bo_cq hb hq) hx rf.lo))
theorem p_led {X : Int × (Int → Int)} {F A R : Fn2} {x1 x2 x3 x4 : Int} (hJ : JX F A R) : Pair X m_X10_led [vA 0, vI x1, vI x2, vI x3, vI x4] m_X11_led [vA 373, vI x1, vI x2, vI x3, vI x4] F A R := by
  obtain ⟨σ, q, l, b, hS, hB, hC, hI, hb, hX⟩ := hJ
  intro K hK
  refine c_led (k := 55) hS hB hC (fun F1 A1 R1 hq => hK _ F1 A1 R1 (fun K2 hK2 => ?_))
  exact r_led (k := 56) hq.1.1 hS (hX.hi hq.2.2.1.2.2.2.2.2) (fun F2 A2 hx rf => hK2 F2 A2 R1 (JX.mk (cs_cq hS hI hq) (bo_cq hb hq) hx rf.lo))
theorem p_parts {X : Int × (Int → Int)} {F A R : Fn2} {x1 x2 x3 x4 : Int} (hJ : JX F A R) : Pair X m_X10_parts [vA 0, vI x1, vI x2, vI x3, vI x4] m_X11_parts [vA 373, vI x1, vI x2, vI x3, vI x4] F A R := by
  obtain ⟨σ, q, l, b, hS, hB, hC, hI, hb, hX⟩ := hJ
  intro K hK
  refine c_parts (k := 55) hS hB hC (fun F1 A1 R1 hq => hK _ F1 A1 R1 (fun K2 hK2 => ?_))
  exact r_parts (k := 55) hq.1.1 hS (hX.hi hq.2.2.1.2.2.2.2.2) (fun F2 A2 hx rf => hK2 F2 A2 R1 (JX.mk (cs_cq hS hI hq) (bo_cq hb hq) hx rf.lo))
theorem p_ring {X : Int × (Int → Int)} {F A R : Fn2} {x1 x2 x3 : Int} (hJ : JX F A R) : Pair X m_X10_ring [vA 0, vI x1, vI x2, vI x3] m_X11_ring [vA 373, vI x1, vI x2, vI x3] F A R := by
  obtain ⟨σ, q, l, b, hS, hB, hC, hI, hb, hX⟩ := hJ
  intro K hK
  refine c_ring (k := 55) hS hB hC (fun F1 A1 R1 v hq ra => hK _ F1 A1 R1 (fun K2 hK2 => ?_))
  refine r_ring (k := 57) hq.1.1 hS (hX.hi hq.2.2.1.2.2.2.2.2) (fun F2 A2 v' hx rf ra' => ?_)
  rw [← ra.uniq ra']
  exact hK2 F2 A2 R1 (JX.mk (cs_cq hS hI hq) (bo_cq hb hq) hx rf.lo)
theorem p_shook {X : Int × (Int → Int)} {F A R : Fn2} {x1 x2 : Int} (hJ : JX F A R) : Pair X m_X10_shook [vA 0, vI x1, vI x2] m_X11_shook [vA 373, vI x1, vI x2] F A R := by
  obtain ⟨σ, q, l, b, hS, hB, hC, hI, hb, hX⟩ := hJ
  intro K hK
  refine c_shook (k := 54) hS hB hC hI (fun F1 A1 R1 hq hi => hK _ F1 A1 R1 (fun K2 hK2 => ?_))
  exact r_shook (k := 54) hq.1.1 hS (hX.hi hq.2.2.1.2.2.2.2.2) (fun F2 A2 hx rf => hK2 F2 A2 R1 (JX.mk ⟨hS, hq.1, hq.2.1, hi, hq.2.2.1.2.2.2.2.2⟩ (hb.same hq.2.2.2.1 ⟨hq.2.2.2.2 182 (by decide) (by decide), hq.2.2.2.2 183 (by decide) (by decide)⟩) hx rf.lo))
theorem p_span {X : Int × (Int → Int)} {F A R : Fn2} {x1 x2 x3 : Int} (hJ : JX F A R) : Pair X m_X10_span [vA 0, vI x1, vI x2, vI x3] m_X11_span [vA 373, vI x1, vI x2, vI x3] F A R := by
  obtain ⟨σ, q, l, b, hS, hB, hC, hI, hb, hX⟩ := hJ
  intro K hK
  refine c_span (k := 59) hS hB hC hI hb (fun F1 A1 hc hbo => hK _ F1 A1 R (fun K2 hK2 => ?_))
  have hX1 := hX.hi hc.2.2.2.2
  exact r_span (k := 60) hc.2.1.1 hS hX1 (fun F2 A2 rf => hK2 F2 A2 R (JX.mk hc hbo (hX1.rf rf) rf.lo))
theorem p_board {X : Int × (Int → Int)} {F A R : Fn2} {x1 x2 x3 x4 : Int} (hJ : JX F A R) : Pair X m_X10_board [vA 0, vI x1, vI x2, vI x3, vI x4] m_X11_board [vA 373, vI x1, vI x2, vI x3, vI x4] F A R := by
  obtain ⟨σ, q, l, b, hS, hB, hC, hI, hb, hX⟩ := hJ
  intro K hK
  refine c_board (k := 59) hS hB hC hI hb (fun F1 A1 hc hbo => hK _ F1 A1 R (fun K2 hK2 => ?_))
  have hX1 := hX.hi hc.2.2.2.2
  exact r_board (k := 60) hc.2.1.1 hS hX1 (fun F2 A2 rf => hK2 F2 A2 R (JX.mk hc hbo (hX1.rf rf) rf.lo))
theorem p_gap {X : Int × (Int → Int)} {F A R : Fn2} {x1 x2 x3 x4 x5 x6 : Int} (hJ : JX F A R) : Pair X m_X10_gap [vA 0, vI x1, vI x2, vI x3, vI x4, vI x5, vI x6] m_X11_gap [vA 373, vI x1, vI x2, vI x3, vI x4, vI x5, vI x6] F A R := by
  obtain ⟨σ, q, l, b, hS, hB, hC, hI, hb, hX⟩ := hJ
  intro K hK
  exact c_gap (k := 62) (hK _ F A R (fun K2 hK2 => r_gap (k := 62) (hK2 F A R ⟨σ, q, l, b, hS, hB, hC, hI, hb, hX⟩)))
theorem p_about {X : Int × (Int → Int)} {F A R : Fn2} {x1 : Int} (hJ : JX F A R) : Pair X m_X10_about [vA 0, vI x1] m_X11_about [vA 373, vI x1] F A R := by
  obtain ⟨σ, q, l, b, hS, hB, hC, hI, hb, hX⟩ := hJ
  intro K hK
  exact c_about (k := 63) hB (hK _ F A R (fun K2 hK2 => r_about (k := 62) hB.1 hX (hK2 F A R ⟨σ, q, l, b, hS, hB, hC, hI, hb, hX⟩)))
theorem p_fault {X : Int × (Int → Int)} {F A R : Fn2} {x1 : Int} (hJ : JX F A R) : Pair X m_X10_fault [vA 0, vI x1] m_X11_fault [vA 373, vI x1] F A R := by
  obtain ⟨σ, q, l, b, hS, hB, hC, hI, hb, hX⟩ := hJ
  intro K hK
  exact c_fault (k := 63) hB (hK _ F A R (fun K2 hK2 => r_fault (k := 63) hX (hK2 F A R ⟨σ, q, l, b, hS, hB, hC, hI, hb, hX⟩)))
theorem p_feed {X : Int × (Int → Int)} {F A R : Fn2} {x1 x2 x3 x4 x5 : Int} (hJ : JX F A R) : Pair X m_X10_feed [vA 0, vI x1, vI x2, vI x3, vI x4, vI x5] m_X11_feed [vA 373, vI x1, vI x2, vI x3, vI x4, vI x5] F A R := by
  obtain ⟨σ, q, l, b, hS, hB, hC, hI, hb, hX⟩ := hJ
  intro K hK
  refine c_feed (k := 62) hS hB hC hI (fun F1 A1 h hc hf ha => hK _ F1 A1 R (fun K2 hK2 => ?_)) (fun h => hK _ F A R (fun K2 hK2 => ?_))
  · refine r_feed (k := 63) (b := b) hc.2.1.1 hS (hX.hi hc.2.2.2.2) (fun F2 A2 _ hx lo => hK2 F2 A2 R (JX.mk hc (hb.of (feedG_n (Or.inr (by decide)) (by decide)) (feedG_r (by decide)) (feedG_r (by decide)) (feedG_r (by decide)) (feedG_r (by decide)) hf ⟨ha 182 (by decide) (by decide), ha 183 (by decide) (by decide)⟩) hx lo)) (fun h' => absurd h h')
  · exact r_feed (k := 63) (b := b) hB.1 hS hX (fun F2 A2 h' _ _ => absurd h' h) (fun _ => hK2 F A R ⟨σ, q, l, b, hS, hB, hC, hI, hb, hX⟩)
theorem p_end {X : Int × (Int → Int)} {F A R : Fn2} {x1 : Int} (hJ : JX F A R) : Pair X m_X10_end [vA 0, vI x1] m_X11_end [vA 373, vI x1] F A R := by
  obtain ⟨σ, q, l, b, hS, hB, hC, hI, hb, hX⟩ := hJ
  intro K hK
  have bo : ∀ F1 : Fn2, KG F A F1 A → BoI (put0 σ 0 x1) F1 A := fun F1 hg => hb.of (by show st2 σ.1 0 0 x1 0 6 = _; rw [st2_s, u1_n (by decide)]) (by show st2 σ.1 0 0 x1 2 = _; rw [st2_n (by decide)]) (by show st2 σ.1 0 0 x1 3 = _; rw [st2_n (by decide)]) (by show st2 σ.1 0 0 x1 4 = _; rw [st2_n (by decide)]) (by show st2 σ.1 0 0 x1 5 = _; rw [st2_n (by decide)]) hg.1 ⟨rfl, rfl⟩
  refine c_end (k := 63) hS hB hC hI (fun F1 h1 h0 hg => hK _ F1 A R (fun K2 hK2 => ?_))
  by_cases h : 0 ≤ x1 ∧ x1 ≤ σ.1 0 0
  · have hc := h1 h
    exact r_end (k := 63) (b := b) (σ := σ) (hX.hi hc.2.2.2.2) (fun F2 hx _ lo => hK2 F2 A R (JX.mk hc (bo F1 hg) (hx h) lo))
  · have e := h0 h
    subst e
    exact r_end (k := 63) (b := b) (σ := σ) hX (fun F2 _ hx lo => by rw [hx h]; exact hK2 F1 A R ⟨σ, q, l, b, hS, hB, hC, hI, hb, hX⟩)
theorem p_cold {X : Int × (Int → Int)} {F A R : Fn2} {x1 : Int} (hJ : JX F A R) : Pair X m_X10_cold [vA 0, vI x1] m_X11_cold [vA 373, vI x1] F A R := by
  obtain ⟨σ, q, l, b, hS, hB, hC, hI, hb, hX⟩ := hJ
  intro K hK
  have bo : ∀ F1 : Fn2, KG F A F1 A → BoI (put0 σ 1 x1) F1 A := fun F1 hg => hb.of (by show st2 σ.1 0 1 x1 0 6 = _; rw [st2_s, u1_n (by decide)]) (by show st2 σ.1 0 1 x1 2 = _; rw [st2_n (by decide)]) (by show st2 σ.1 0 1 x1 3 = _; rw [st2_n (by decide)]) (by show st2 σ.1 0 1 x1 4 = _; rw [st2_n (by decide)]) (by show st2 σ.1 0 1 x1 5 = _; rw [st2_n (by decide)]) hg.1 ⟨rfl, rfl⟩
  refine c_cold (k := 61) hS hB hC hI (fun F1 h1 h0 hg => hK _ F1 A R (fun K2 hK2 => ?_))
  by_cases h : 0 ≤ x1 ∧ x1 ≤ 99
  · have hc := h1 h
    exact r_cold (k := 63) (b := b) (σ := σ) (hX.hi hc.2.2.2.2) (fun F2 hx _ lo => hK2 F2 A R (JX.mk hc (bo F1 hg) (hx h) lo))
  · have e := h0 h
    subst e
    exact r_cold (k := 63) (b := b) (σ := σ) hX (fun F2 _ hx lo => by rw [hx h]; exact hK2 F1 A R ⟨σ, q, l, b, hS, hB, hC, hI, hb, hX⟩)
theorem p_high {X : Int × (Int → Int)} {F A R : Fn2} {x1 : Int} (hJ : JX F A R) : Pair X m_X10_high [vA 0, vI x1] m_X11_high [vA 373, vI x1] F A R := by
  obtain ⟨σ, q, l, b, hS, hB, hC, hI, hb, hX⟩ := hJ
  intro K hK
  have bo : ∀ F1 : Fn2, KG F A F1 A → BoI (put0 σ 2 x1) F1 A := fun F1 hg => hb.of (by show st2 σ.1 0 2 x1 0 6 = _; rw [st2_s, u1_n (by decide)]) (by show st2 σ.1 0 2 x1 2 = _; rw [st2_n (by decide)]) (by show st2 σ.1 0 2 x1 3 = _; rw [st2_n (by decide)]) (by show st2 σ.1 0 2 x1 4 = _; rw [st2_n (by decide)]) (by show st2 σ.1 0 2 x1 5 = _; rw [st2_n (by decide)]) hg.1 ⟨rfl, rfl⟩
  refine c_high (k := 63) hS hB hC hI (fun F1 h1 h0 hg => hK _ F1 A R (fun K2 hK2 => ?_))
  by_cases h : 1 ≤ x1 ∧ x1 ≤ 99
  · have hc := h1 h
    exact r_high (k := 63) (b := b) (σ := σ) (hX.hi hc.2.2.2.2) (fun F2 hx _ lo => hK2 F2 A R (JX.mk hc (bo F1 hg) (hx h) lo))
  · have e := h0 h
    subst e
    exact r_high (k := 63) (b := b) (σ := σ) hX (fun F2 _ hx lo => by rw [hx h]; exact hK2 F1 A R ⟨σ, q, l, b, hS, hB, hC, hI, hb, hX⟩)
theorem p_later {X : Int × (Int → Int)} {F A R : Fn2} {x1 : Int} (hJ : JX F A R) : Pair X m_X10_later [vA 0, vI x1] m_X11_later [vA 373, vI x1] F A R := by
  obtain ⟨σ, q, l, b, hS, hB, hC, hI, hb, hX⟩ := hJ
  intro K hK
  refine c_later (k := 63) hS hB hC hI (fun F1 h hc hg => hK _ F1 A R (fun K2 hK2 => ?_)) (fun h => hK _ F A R (fun K2 hK2 => ?_))
  · exact r_later (k := 63) (b := b) hS (hX.hi hc.2.2.2.2) (fun F2 _ hx lo => hK2 F2 A R (JX.mk hc (hb.of (by show st2 σ.1 0 7 (σ.1 0 7 + x1) 0 6 = _; rw [st2_s, u1_n (by decide)]) (by show st2 σ.1 0 7 (σ.1 0 7 + x1) 2 = _; rw [st2_n (by decide)]) (by show st2 σ.1 0 7 (σ.1 0 7 + x1) 3 = _; rw [st2_n (by decide)]) (by show st2 σ.1 0 7 (σ.1 0 7 + x1) 4 = _; rw [st2_n (by decide)]) (by show st2 σ.1 0 7 (σ.1 0 7 + x1) 5 = _; rw [st2_n (by decide)]) hg.1 ⟨rfl, rfl⟩) hx lo)) (fun h' => absurd h h')
  · exact r_later (k := 63) (b := b) hS hX (fun F2 h' _ _ => absurd h' h) (fun _ => hK2 F A R ⟨σ, q, l, b, hS, hB, hC, hI, hb, hX⟩)
theorem p_clear {X : Int × (Int → Int)} {F A R : Fn2} (hJ : JX F A R) : Pair X m_X10_clear [vA 0] m_X11_clear [vA 373] F A R := by
  obtain ⟨σ, q, l, b, hS, hB, hC, hI, hb, hX⟩ := hJ
  intro K hK
  refine c_clear (k := 63) hS hB hC hI (fun F1 hc hg => hK _ F1 A R (fun K2 hK2 => ?_))
  exact r_clear (k := 63) (b := b) (σ := σ) (hX.hi hc.2.2.2.2) (fun F2 hx lo => hK2 F2 A R (JX.mk hc (hb.of (by show st2 σ.1 0 8 0 0 6 = _; rw [st2_s, u1_n (by decide)]) (by show st2 σ.1 0 8 0 2 = _; rw [st2_n (by decide)]) (by show st2 σ.1 0 8 0 3 = _; rw [st2_n (by decide)]) (by show st2 σ.1 0 8 0 4 = _; rw [st2_n (by decide)]) (by show st2 σ.1 0 8 0 5 = _; rw [st2_n (by decide)]) hg.1 ⟨rfl, rfl⟩) hx lo))
theorem p_log {X : Int × (Int → Int)} {F A R : Fn2} {x1 x2 x3 : Int} (hp : 0 ≤ x3 ∧ x3 ≤ 1) (hJ : JX F A R) : Pair X m_X10_log [vA 0, vI x1, vI x2, vI x3] m_X11_log [vA 373, vI x1, vI x2, vI x3] F A R := by
  obtain ⟨σ, q, l, b, hS, hB, hC, hI, hb, hX⟩ := hJ
  intro K hK
  have g := putLog_g (σ := σ) (a := x1) (b := x2) (p := x3)
  refine c_log (k := 62) hS hB hC hI hp (fun F1 A1 h hc hg => hK _ F1 A1 R (fun K2 hK2 => ?_)) (fun F1 h hc hg => hK _ F1 A R (fun K2 hK2 => ?_))
  · exact r_log (k := 62) (b' := b) hc.2.1.1 hS (hX.hi hc.2.2.2.2) hp (fun F2 A2 _ hx lo => hK2 F2 A2 R (JX.mk hc (hb.of (g.1 6 (by decide)) (g.2.2.2.1) (g.2.2.2.2.1) (g.2.2.2.2.2.1) (g.2.2.2.2.2.2.1) hg.1 ⟨hg.2 182 (by decide) (by decide), hg.2 183 (by decide) (by decide)⟩) hx lo)) (fun h' => absurd h h')
  · have hX1 := hX.hi hc.2.2.2.2
    exact r_log (k := 62) (b' := b) hc.2.1.1 hS hX1 hp (fun F2 A2 h' _ _ => absurd h' h) (fun _ => hK2 F1 A R (JX.mk hc (hb.same hg.1 ⟨rfl, rfl⟩) hX1 LO.refl))
theorem p_sight {X : Int × (Int → Int)} {F A R : Fn2} {x1 x2 : Int} (hJ : JX F A R) : Pair X m_X10_sight [vA 0, vI x1, vI x2] m_X11_sight [vA 373, vI x1, vI x2] F A R := by
  obtain ⟨σ, q, l, b, hS, hB, hC, hI, hb, hX⟩ := hJ
  intro K hK
  refine c_sight (k := 62) hS hB hC hI (fun F1 A1 h hc h2 => hK _ F1 A1 R (fun K2 hK2 => ?_)) (fun F1 h hc h2 => hK _ F1 A R (fun K2 hK2 => ?_))
  · exact r_sight (k := 62) (b := b) hc.2.1.1 hS (hX.hi hc.2.2.2.2) (fun F2 A2 _ hx lo => hK2 F2 A2 R (JX.mk hc (Or.inl h2) hx lo)) (fun h' => absurd h h')
  · have hX1 := hX.hi hc.2.2.2.2
    exact r_sight (k := 62) (b := b) hc.2.1.1 hS hX1 (fun F2 A2 h' _ _ => absurd h' h) (fun _ => hK2 F1 A R (JX.mk hc (h2.elim Or.inl (fun e => by rw [e]; exact hb)) hX1 LO.refl))
theorem p_untell {X : Int × (Int → Int)} {F A R : Fn2} {x1 : Int} (hJ : JX F A R) : Pair X m_X10_untell [vA 0, vI x1] m_X11_untell [vA 373, vI x1] F A R := by
  obtain ⟨σ, q, l, b, hS, hB, hC, hI, hb, hX⟩ := hJ
  intro K hK
  refine c_untell (k := 62) hS hB hC hI (fun F1 A1 h hc h2 => hK _ F1 A1 R (fun K2 hK2 => ?_)) (fun F1 h hc h2 => hK _ F1 A R (fun K2 hK2 => ?_))
  · exact r_untell (k := 63) (b := b) hc.2.1.1 hS (hX.hi hc.2.2.2.2) (fun A2 _ hx lo => hK2 F1 A2 R (JX.mk hc (Or.inl h2) hx lo)) (fun h' => absurd h h')
  · have hX1 := hX.hi hc.2.2.2.2
    exact r_untell (k := 63) (b := b) hc.2.1.1 hS hX1 (fun A2 h' _ _ => absurd h' h) (fun _ => hK2 F1 A R (JX.mk hc (Or.inl h2) hX1 LO.refl))
theorem p_spring {X : Int × (Int → Int)} {F A R : Fn2} {x1 : Int} (hJ : JX F A R) : Pair X m_X10_spring [vA 0, vI x1] m_X11_spring [vA 373, vI x1] F A R := by
  obtain ⟨σ, q, l, b, hS, hB, hC, hI, hb, hX⟩ := hJ
  intro K hK
  have kb : ∀ (σ' : Sg) (F1 A1 : Fn2), KB F A F1 A1 → σ'.1 0 6 = σ.1 0 6 → σ'.1 2 = σ.1 2 → σ'.1 3 = σ.1 3 → σ'.1 4 = σ.1 4 → σ'.1 5 = σ.1 5 → BoI σ' F1 A1 := fun σ' F1 A1 k a1 a2 a3 a4 a5 => hb.of a1 a2 a3 a4 a5 (fun f => by rw [(k 71 (by decide) (by decide)).1]) ⟨(k 182 (by decide) (by decide)).2, (k 183 (by decide) (by decide)).2⟩
  have fr := fun (a c : Int) (i : Int) (h : i ≠ 0) => flG_r (σ := σ) (a := a) (b := c) h
  have f6 := fun (a c : Int) => flG_n (σ := σ) (a := a) (b := c) (i := 0) (j := 6) (Or.inr (by decide))
  refine c_spring (k := 52) hS hB hC (fun F1 A1 R1 q' S P s0 s4 e1 e2 hc hk => hK _ F1 A1 R1 (fun K2 hK2 => ?_)) (fun F1 A1 R1 a c s0 s4 e1 e2 hc hk => hK _ F1 A1 R1 (fun K2 hK2 => ?_)) (fun hn => hK _ F A R (fun K2 hK2 => ?_)) hI
  · refine r_spring (k := 57) (b := b) hc.2.1.1 hS (hX.hi hc.2.2.2.2) (fun F2 A2 b' S' _ _ e1' hx lo => ?_) (fun F2 A2 a c _ _ e1' ha _ _ => ?_) (fun h => absurd ⟨s0, s4⟩ h)
    · have e : okS S = okS S' := by rw [← e1, ← e1']
      have e' : S = S' := congrArg (fun r : Rs => r.2.2) e
      subst e'
      exact hK2 F2 A2 R1 (JX.mk hc (kb _ F1 A1 hk (f6 0 (-1)) (fr 0 (-1) 2 (by decide)) (fr 0 (-1) 3 (by decide)) (fr 0 (-1) 4 (by decide)) (fr 0 (-1) 5 (by decide))) (hx P e2) lo)
    · have e : okS S = flS a c := by rw [← e1, ← e1']
      have : (0 : Int) = a := congrArg Prod.fst e
      omega
  · refine r_spring (k := 57) (b := b) hc.2.1.1 hS (hX.hi hc.2.2.2.2) (fun F2 A2 b' S' _ _ e1' hx lo => ?_) (fun F2 A2 a' c' _ _ e1' ha hx lo => ?_) (fun h => absurd ⟨s0, s4⟩ h)
    · have e : flS a c = okS S' := by rw [← e1, ← e1']
      have : a = (0 : Int) := congrArg Prod.fst e
      omega
    · have e : flS a c = flS a' c' := by rw [← e1, ← e1']
      have q1 : a = a' := congrArg Prod.fst e
      have q2 : c = c' := congrArg (fun r : Rs => r.2.1) e
      subst q1 q2
      exact hK2 F2 A2 R1 (JX.mk hc (kb _ F1 A1 hk (f6 _ _) (fr _ _ 2 (by decide)) (fr _ _ 3 (by decide)) (fr _ _ 4 (by decide)) (fr _ _ 5 (by decide))) hx lo)
  · exact r_spring (k := 57) (b := b) hB.1 hS hX (fun F2 A2 b' S' s0 s4 _ _ _ => absurd ⟨s0, s4⟩ hn) (fun F2 A2 a c s0 s4 _ _ _ _ => absurd ⟨s0, s4⟩ hn) (fun _ => hK2 F A R ⟨σ, q, l, b, hS, hB, hC, hI, hb, hX⟩)
theorem CL1.wf {o : Int} {A : Fn2} {i : Int} {c : List Int} (h : CL1 o A i (some c)) : Wfc c := h.2.2.2.2.2
theorem p_laws {X : Int × (Int → Int)} {F A R : Fn2} (hJ : JX F A R) : Pair X m_X10_laws [vA 0] m_X11_laws [vA 373] F A R := by
  obtain ⟨σ, q, l, b, hS, hB, hC, hI, hb, hX⟩ := hJ
  intro K hK
  have kb : ∀ (σ' : Sg) (F1 A1 : Fn2), KB F A F1 A1 → σ'.1 0 6 = σ.1 0 6 → σ'.1 2 = σ.1 2 → σ'.1 3 = σ.1 3 → σ'.1 4 = σ.1 4 → σ'.1 5 = σ.1 5 → BoI σ' F1 A1 := fun σ' F1 A1 k a1 a2 a3 a4 a5 => hb.of a1 a2 a3 a4 a5 (fun f => by rw [(k 71 (by decide) (by decide)).1]) ⟨(k 182 (by decide) (by decide)).2, (k 183 (by decide) (by decide)).2⟩
  have fr := fun (a c : Int) (i : Int) (h : i ≠ 0) => flG_r (σ := σ) (a := a) (b := c) h
  have f6 := fun (a c : Int) => flG_n (σ := σ) (a := a) (b := c) (i := 0) (j := 6) (Or.inr (by decide))
  refine c_laws (k := 4) hS hB hC hI (fun F1 A1 R1 C j hle e1 hc hk => hK _ F1 A1 R1 (fun K2 hK2 => ?_)) (fun F1 A1 R1 a c hle e1 ha hc hk => hK _ F1 A1 R1 (fun K2 hK2 => ?_)) (fun hn => hK _ F A R (fun K2 hK2 => ?_))
  · have hw : ∀ i : Nat, i < 3 → ∀ c, C i = some c → Wfc c := fun i hi c e => by
      have cl := hc.2.1.2.2.2.2.2.2.2.2.2.1
      obtain ⟨k0, k1, k2⟩ := cl
      have k0' : CL1 (39 - l) A1 0 (C 0) := k0
      have k1' : CL1 (39 - l) A1 1 (C 1) := k1
      have k2' : CL1 (39 - l) A1 2 (C 2) := k2
      rcases (show i = 0 ∨ i = 1 ∨ i = 2 by omega) with rfl | rfl | rfl
      · rw [e] at k0'; exact k0'.wf
      · rw [e] at k1'; exact k1'.wf
      · rw [e] at k2'; exact k2'.wf
    refine r_laws (k := 55) (b := b) hc.2.1.1 hS (hX.hi hc.2.2.2.2) (fun _ C' j' e1' => ?_) (fun F2 A2 C' j' _ e1' hx lo => ?_) (fun F2 A2 a c _ e1' ha _ _ => ?_) (fun h => absurd hle h)
    · have e := pLw_det 4 _ _ _ _ _ e1 e1'
      have e' : C = C' := congrArg (fun r : LT => r.2.2.1) e
      rw [← e']; exact hw
    · have e := pLw_det 4 _ _ _ _ _ e1 e1'
      have q1 : C = C' := congrArg (fun r : LT => r.2.2.1) e
      have q2 : j = j' := congrArg (fun r : LT => r.2.2.2) e
      subst q1 q2
      exact hK2 F2 A2 R1 (JX.mk hc (kb _ F1 A1 hk ((lwG_n (Or.inr (by decide))).trans (f6 _ _)) (lwG_r (by decide)) (lwG_r (by decide)) (lwG_r (by decide)) (lwG_r (by decide))) hx lo)
    · have e := pLw_det 4 _ _ _ _ _ e1 e1'
      have : (0 : Int) = a := congrArg Prod.fst e
      omega
  · refine r_laws (k := 55) (b := b) hc.2.1.1 hS (hX.hi hc.2.2.2.2) (fun _ C' j' e1' => ?_) (fun F2 A2 C' j' _ e1' hx lo => ?_) (fun F2 A2 a' c' _ e1' ha' hx lo => ?_) (fun h => absurd hle h)
    · have e := pLw_det 4 _ _ _ _ _ e1 e1'
      have : a = (0 : Int) := congrArg Prod.fst e
      omega
    · have e := pLw_det 4 _ _ _ _ _ e1 e1'
      have : a = (0 : Int) := congrArg Prod.fst e
      omega
    · have e := pLw_det 4 _ _ _ _ _ e1 e1'
      have q1 : a = a' := congrArg Prod.fst e
      have q2 : c = c' := congrArg (fun r : LT => r.2.1) e
      subst q1 q2
      exact hK2 F2 A2 R1 (JX.mk hc (kb _ F1 A1 hk (f6 _ _) (fr _ _ 2 (by decide)) (fr _ _ 3 (by decide)) (fr _ _ 4 (by decide)) (fr _ _ 5 (by decide))) hx lo)
  · exact r_laws (k := 55) (b := b) hB.1 hS hX (fun h => absurd h hn) (fun F2 A2 C j h _ _ _ => absurd h hn) (fun F2 A2 a c h _ _ _ _ => absurd h hn) (fun _ => hK2 F A R ⟨σ, q, l, b, hS, hB, hC, hI, hb, hX⟩)
