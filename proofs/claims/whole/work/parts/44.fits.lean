/-! fits, led -/
def rtS (σ : Sg) (T : Nat → Int) : Int := rtN (σ.1 0 2) T (σ.1 6) (σ.1 7) (σ.1 8) (σ.1 0 8).toNat
theorem w_alikeS {X : Int × (Int → Int)} {k : Nat} {Q : Vv → Fn2 → Fn2 → Fn2 → Prop} {F A R : Fn2} {σ : Sg} {q : Int → Int} {l x : Int} {T : Nat → Int} (hS : SgI σ) (hB : CB σ q l F A R) (hC : CC σ q l F A R) (hk : Y1.1 x = 0) (hl : Y1.2.1 x = 1001) (hx : x < 184 ∨ 188 < x) (hT : ∀ s : Nat, 1 ≤ s → s ≤ 500 → A x s = T s) (hq : ∀ A', CQ σ q l F A R F A' R → (∀ a, a ≠ 188 → A' a = A a) → Q (vI (rtS σ T)) F A' R) : Wp X (k + 2) m_X4_countAlike [vA 184, vA x, vI (σ.1 0 2)] F A R Q := by
  obtain ⟨h17, h18, h19⟩ := hB.2.2.2.2.2.2.2.2.2.2.2.2.2.2.1
  have hL := hS.2.2.2.2.2.1
  have e : ((σ.1 0 8).toNat : Int) = σ.1 0 8 := by have := hL.1; omega
  refine w_countAlike (k := k) (n := (σ.1 0 8).toNat) hB.1 hk hl hx hT (by rw [e]; exact hL) (by rw [e]; exact h17) (fun i a b => h18 i (by omega) (by omega)) h19 fun A' z1 z2 => hq A' ?_ z1
  have hx : QF F A R F A' R := ⟨fun a ha => z1 a (by unfold isB at ha; omega), fun _ _ _ => rfl, fun _ _ _ _ _ _ _ => rfl, fun _ => z2, hB.1, fun a ha => ⟨z1 a (by omega), rfl⟩⟩
  exact ⟨hB.qf hx, hC.of (fun a h1 h2 h3 h4 h5 => z1 a (by omega)) (fun i hi => ⟨rfl, fun f => ⟨rfl, rfl⟩⟩), hx, fun _ => rfl, fun _ => rfl, fun a h1 h2 => z1 a (by omega)⟩
theorem x_rightS {X : Int × (Int → Int)} {k : Nat} {Q : Vv → Fn2 → Fn2 → Fn2 → Prop} {F A R : Fn2} {σ : Sg} {b : Int → Int} {T : Nat → Int} (hR : RS R) (hS : SgI σ) (hX : XI σ b F A) (h61 : F 373 61 = min (cnN (σ.1 0 2) T 500) 200) (hpl : PlR 405 406 407 (psN (σ.1 0 2) T 500) A) (hq : Q (vI (rtS σ T)) F A R) : Wp X (k + 1) m_X11_rightLogs [vA 373] F A R Q := by
  obtain ⟨h14, h15⟩ := hX.2.2.2.2.2.2.2.2.2.2.2.1
  have hL := hS.2.2.2.2.2.1
  have e : ((σ.1 0 8).toNat : Int) = σ.1 0 8 := by have := hL.1; omega
  exact x_right (k := k) (n := (σ.1 0 8).toNat) hR (by rw [e]; exact hL) h61 (by rw [e]; exact h14) hpl (fun i a b => h15 i (by omega) (by omega)) hq
def fitN (σ : Sg) : Nat → Int
  | 0 => 0
  | i + 1 => if rtS σ (th σ i) = σ.1 0 8 then bor (fitN σ i) (bshl 1 i) else fitN σ i
theorem fit_s {σ : Sg} {i : Nat} : fitN σ (i + 1) = if rtS σ (th σ i) = σ.1 0 8 then bor (fitN σ i) (bshl 1 i) else fitN σ i := rfl
theorem bor_fin : ∀ x : Nat, x < 16 → (bor x 0 = x) ∧ ∀ i : Nat, i < 4 → 0 ≤ bor x (bshl 1 i) ∧ bor x (bshl 1 i) < 16 := by decide +kernel
theorem fit_b {σ : Sg} : ∀ i : Nat, i ≤ 4 → 0 ≤ fitN σ i ∧ fitN σ i < 16
  | 0, _ => by unfold fitN; exact ⟨by decide, by decide⟩
  | i + 1, h => by
    have ih := fit_b (σ := σ) i (by omega)
    unfold fitN
    split
    · have := (bor_fin (fitN σ i).toNat (by omega)).2 i (by omega)
      rwa [show ((fitN σ i).toNat : Int) = fitN σ i by omega] at this
    · exact ih
theorem bor_0 {x : Int} (h0 : 0 ≤ x) (h : x < 16) : bor x 0 = x := by
  have := (bor_fin x.toNat (by omega)).1
  rwa [show (x.toNat : Int) = x by omega] at this
theorem c_fitsL {X : Int × (Int → Int)} {k : Nat} {Q : Vv → Fn2 → Fn2 → Fn2 → Prop} {σ : Sg} {q : Int → Int} {l : Int} (hS : SgI σ) : ∀ (m i : Nat) (F A R : Fn2) (w3 : Vv), i + m = 4 → CB σ q l F A R → CC σ q l F A R → (∀ F' A' R', CQ σ q l F A R F' A' R' → Q (vI (fitN σ 4)) F' A' R') → G X (k + 8) m_X10_fits Q 4 [vA 0, vI (fitN σ i), vI i, w3] [] F A R
  | 0, i, F, A, R, w3, hm, hB, hC, hq => by
    have e : i = 4 := by omega
    subst e
    exact b_X10_fits_4 ⟨fun _ => hq F A R (CQ.refl hB hC), fun hx => absurd hx (by decide)⟩
  | m + 1, i, F, A, R, w3, hm, hB, hC, hq => by
    have hi : i < 4 := by omega
    refine b_X10_fits_4 ⟨fun hx => by omega, fun _ => w_upTo (k := k) hS hB hC hi (by omega) (by omega) fun F1 A1 R1 y1 y2 => ?_⟩
    refine b_X10_fits_17 y1.1.1 (crs_at hi) ?_
    rw [y1.1.2.2.2.2.2.2.2.2.2.2.2.2.1]
    refine w_alikeS (k := k + 6) (T := th σ i) hS y1.1 y1.2.1 (la_Course_4 (crs_at hi)) (ln_Course_4 (crs_at hi)) (by unfold crs; omega) (fun s h1 h2 => (y2 s (by omega)).2.1) fun A2 y3 _ => ?_
    have y4 := y1.trans y3
    refine b_X10_fits_33 y3.1.1 (la_Course_4 (crs_at hi)) (ln_Course_4 (crs_at hi)) ?_
    rw [y3.1.2.2.2.2.2.2.2.2.2.2.2.2.2.2.1.1]
    have nx : ∀ v, v = fitN σ (i + 1) → G X (k + 8) m_X10_fits Q 4 [vA 0, vI v, vI ((i : Int) + 1), vA (crs i + 42)] [] F1 A2 R1 := by
      intro v hv
      rw [hv]
      have := c_fitsL (X := X) (k := k) hS m (i + 1) F1 A2 R1 (vA (crs i + 42)) (by omega) y4.1 y4.2.1 fun F' A' R' z => hq F' A' R' (y4.trans z)
      exact this
    refine ⟨fun hz => ⟨by omega, nx _ ?_⟩, fun hz g hg => ⟨by omega, nx _ ?_⟩⟩
    · rw [fit_s, if_neg hz]
    · rw [hg, fit_s, if_pos hz]
theorem c_fits {X : Int × (Int → Int)} {k : Nat} {Q : Vv → Fn2 → Fn2 → Fn2 → Prop} {F A R : Fn2} {σ : Sg} {q : Int → Int} {l : Int} (hS : SgI σ) (hB : CB σ q l F A R) (hC : CC σ q l F A R) (hq : ∀ F' A' R', CQ σ q l F A R F' A' R' → Q (vI (fitN σ 4)) F' A' R') : Wp X (k + 9) m_X10_fits [vA 0] F A R Q :=
  Wp.of [vA 0, vN, vN, vN] rfl rfl rfl (b_X10_fits_0 (c_fitsL (X := X) (k := k) hS 4 0 F A R vN (by omega) hB hC hq))
theorem r_fitsL {X : Int × (Int → Int)} {k : Nat} {Q : Vv → Fn2 → Fn2 → Fn2 → Prop} {R : Fn2} {σ : Sg} {b : Int → Int} (hR : RS R) (hS : SgI σ) : ∀ (m i : Nat) (F A : Fn2), i + m = 4 → XI σ b F A → (∀ F' A', XI σ b F' A' → RF F A F' A' → Q (vI (fitN σ 4)) F' A' R) → G X (k + 8) m_X11_fits Q 4 [vA 373, vI (fitN σ i), vI i] [] F A R
  | 0, i, F, A, hm, hX, hq => by
    have e : i = 4 := by omega
    subst e
    exact b_X11_fits_4 ⟨fun _ => hq F A hX RF.refl, fun hx => absurd hx (by decide)⟩
  | m + 1, i, F, A, hm, hX, hq => by
    have hi : i < 4 := by omega
    refine b_X11_fits_4 ⟨fun hx => by omega, fun _ => ?_⟩
    refine x_courseOf (k := k) (N := 500) hR hS hX hi (by omega) fun F1 A1 y1 y2 y3 y4 _ _ _ => b_X11_fits_17 ?_
    refine x_rightS (k := k + 7) (T := th σ i) hR hS y1 y3 y4 (b_X11_fits_22 ?_)
    rw [y1.2.2.2.2.2.2.2.2.2.2.2.1.1]
    have hb := fit_b (σ := σ) i (by omega)
    have nx : ∀ v, v = fitN σ (i + 1) → G X (k + 8) m_X11_fits Q 4 [vA 373, vI v, vI ((i : Int) + 1)] [] F1 A1 R := by
      intro v hv
      rw [hv]
      have := r_fitsL (X := X) (k := k) hR hS m (i + 1) F1 A1 (by omega) y1 fun F' A' z1 z2 => hq F' A' z1 (y2.trans z2)
      exact this
    refine ⟨fun hz g hg => ⟨by omega, nx _ ?_⟩, fun hz g hg => ⟨by omega, nx _ ?_⟩⟩
    · rw [hg, bor_0 hb.1 hb.2, fit_s, if_neg hz]
    · rw [hg, fit_s, if_pos hz]
theorem r_fits {X : Int × (Int → Int)} {k : Nat} {Q : Vv → Fn2 → Fn2 → Fn2 → Prop} {F A R : Fn2} {σ : Sg} {b : Int → Int} (hR : RS R) (hS : SgI σ) (hX : XI σ b F A) (hq : ∀ F' A', XI σ b F' A' → RF F A F' A' → Q (vI (fitN σ 4)) F' A' R) : Wp X (k + 9) m_X11_fits [vA 373] F A R Q :=
  Wp.of [vA 373, vN, vN] rfl rfl rfl (b_X11_fits_0 (r_fitsL (X := X) (k := k) hR hS 4 0 F A (by omega) hX hq))
/-- how many plays when g grains are led from room r -/
def ledC (σ : Sg) (i : Nat) (r n : Int) (g : Int) : Int := min (cnN (σ.1 0 2) (thG σ i 1 r g (σ.2.1 i 5)) n.toNat) 200
/-- from g grains downwards: the first that still gives so many plays -/
def ledN (σ : Sg) (i : Nat) (r n p : Int) : Nat → Int
  | 0 => -1
  | g + 1 => if p ≤ ledC σ i r n g then g else ledN σ i r n p g
/-- more than the room holds: the same course -/
theorem led_hi {σ : Sg} (hS : SgI σ) {i : Nat} (hi : i < 4) {r n g g' : Int} (h0 : 0 ≤ r) (hr : r < σ.2.1 i 0 0) (hg : σ.2.1 i 4 r ≤ g) (hg' : σ.2.1 i 4 r ≤ g') (hgp : 0 ≤ g) (hgp' : 0 ≤ g') : ledC σ i r n g = ledC σ i r n g' := by
  have hP := hS.2.2.2.2.2.2.1 i hi
  have h8 := hP.1
  have hw : ∀ x, 0 ≤ x → x < σ.2.1 i 0 0 → 0 ≤ σ.2.1 i 5 x ∧ σ.2.1 i 5 x ≤ 30 := fun x a b => by have := hP.2.1 x a b; omega
  have key : ∀ t : Nat, zzG σ i 1 r g (σ.2.1 i 5) t = zzG σ i 1 r g' (σ.2.1 i 5) t := by
    intro t
    induction t with
    | zero => rfl
    | succ t ih =>
      show tickA _ _ _ _ _ _ (zzG σ i 1 r g (σ.2.1 i 5) t) = tickA _ _ _ _ _ _ (zzG σ i 1 r g' (σ.2.1 i 5) t)
      rw [ih]
      have hI : Iv (σ.2.1 i) (19512 * t) 1920 (240 * t) (2712 * t) (792 * t) (zzG σ i 1 r g' (σ.2.1 i 5) t) := iv_run hP LwF_ok hS.2.1.1 hS.2.1.2 hgp' hw t
      have hI2 := iv_tick0 (jn := 1) (L := LwF σ.2.2) hI hP LwF_ok hS.2.1.1 hS.2.1.2
      have h3 := (hI2.1.1 r h0 (by omega)).2.2.1 hr
      unfold tickA ledA
      rw [if_pos ⟨h0, hr⟩, if_pos ⟨h0, hr⟩]
      generalize tick0 (σ.2.1 i) (LwF σ.2.2) (σ.1 0 1) 1 (zzG σ i 1 r g' (σ.2.1 i 5) t) = z at *
      rw [show min g (z 0 r) = min g' (z 0 r) by omega]
  unfold ledC
  rw [cnN_cong (T' := thG σ i 1 r g' (σ.2.1 i 5)) (fun t _ _ => by unfold thG; rw [key t])]
/-- so a leap from above the room's hold down to it leaves nothing out -/
theorem led_leap {σ : Sg} (hS : SgI σ) {i : Nat} (hi : i < 4) {r n p : Int} (h0 : 0 ≤ r) (hr : r < σ.2.1 i 0 0) {g : Nat} (hno : ¬ p ≤ ledC σ i r n g) : ∀ m : Nat, σ.2.1 i 4 r ≤ (g : Int) - m → m ≤ g → ledN σ i r n p (g + 1) = ledN σ i r n p (g - m)
  | 0, hm, _ => by
    show (if p ≤ ledC σ i r n g then (g : Int) else ledN σ i r n p g) = _
    rw [if_neg hno]; rfl
  | m + 1, hm, hmg => by
    rw [led_leap hS hi h0 hr hno m (by omega) (by omega)]
    have e : g - m = (g - (m + 1)) + 1 := by omega
    rw [e]
    show (if p ≤ ledC σ i r n ((g - (m + 1) : Nat) : Int) then ((g - (m + 1) : Nat) : Int) else ledN σ i r n p (g - (m + 1))) = _
    have hp := (hS.2.2.2.2.2.2.1 i hi).2.1 r h0 hr
    rw [if_neg]
    rw [led_hi hS hi (g' := g) h0 hr (by omega) (by omega) (by omega) (by omega)]
    exact hno
def ansLed (σ : Sg) (s r p n : Int) : Int := if (0 ≤ s ∧ s < 4) ∧ (1 ≤ p ∧ p ≤ 99) ∧ (1 ≤ n ∧ n ≤ 1000) ∧ 0 ≤ r ∧ r < σ.2.1 s.toNat 0 0 then ledN σ s.toNat r n p 31 else -1
theorem c_ledL {X : Int × (Int → Int)} {k : Nat} {Q : Vv → Fn2 → Fn2 → Fn2 → Prop} {σ : Sg} {q : Int → Int} {l r p n : Int} {i : Nat} (hS : SgI σ) (hi : i < 4) (h0 : 0 ≤ r) (hr : r < σ.2.1 i 0 0) (hp1 : 1 ≤ p) (hn1 : 1 ≤ n) (hn2 : n ≤ 1000) : ∀ (m g : Nat) (F A R : Fn2), g ≤ m → g ≤ 31 → CB σ q l F A R → CC σ q l F A R → (∀ F' A' R', CQ σ q l F A R F' A' R' → Q (vI (ledN σ i r n p g)) F' A' R') → G X (k + 8) m_X10_led Q 50 [vA 0, vI i, vI r, vI p, vI n, vI (σ.2.1 i 4 r), vI ((g : Int) - 1)] [] F A R
  | m, 0, F, A, R, hgm, hg, hB, hC, hq => b_X10_led_50 ⟨fun _ => hq F A R (CQ.refl hB hC), fun hx => absurd (show ((0 : Nat) : Int) - 1 < 0 by decide) hx⟩
  | 0, g + 1, F, A, R, hgm, hg, hB, hC, hq => absurd hgm (by omega)
  | m + 1, g + 1, F, A, R, hgm, hg, hB, hC, hq => by
    have hP := hS.2.2.2.2.2.2.1 i hi
    have h8 := hP.1
    have hp4 := hP.2.1 r h0 hr
    rw [show ((g + 1 : Nat) : Int) - 1 = g by omega]
    refine b_X10_led_50 ⟨fun hx => by omega, fun _ => ?_⟩
    refine w_beginT (k := k + 5) hS hB hC hi fun F1 A1 R1 z z1 z2 z3 z4 z5 z6 z7 => b_X10_led_60 z1.1.1 fun F2 hF2 F3 hF3 => ?_
    have x3 := f28_cq z1.1 z1.2.1 (F' := F3) (fun a f ha => by rw [hF3, hF2, st2_n ha, st2_n ha])
    have hT : TrR σ q l i 1 r g z F3 A1 R1 := by
      obtain ⟨t1, t2, t3, t4, t5, t6⟩ := z2
      obtain ⟨a1, a2, a3, a4, ⟨a5, a6, a7⟩, a8⟩ := t1
      have d := (dj_S28 a2).1
      obtain ⟨e0, e1, e2, e3, f5, f6, f7, f8⟩ := t2
      refine ⟨⟨a1, a2, a3, a4, ⟨a5, ?_, ?_⟩, a8⟩, ⟨e0, e1, e2, e3, ?_, ?_, ?_, ?_⟩, ?_, ?_, ?_, ?_⟩ <;> rw [hF3, hF2]
      · rw [st2_n d, st2_n d]; exact a6
      · rw [st2_n d, st2_n d]; exact a7
      all_goals (simp only [ne_eq, Int.add_right_inj, Int.reduceEq, not_false_eq_true, st2_n, st2_s, u1_s, u1_u1, u1_n]; try assumption)
    have hrun := it_run (L := LwF σ.2.2) (cw := σ.1 0 1) (jn := 1) (lr := r) (lg := g) hP z3
    rw [show n = (n.toNat : Int) by omega]
    refine w_rtp (k := k + 1) (N := n.toNat) (T := thG σ i 1 r g (σ.2.1 i 5)) hS x3.1 x3.2.1 hi (by omega) (by omega) (by omega) (by omega) (by omega) hT (z4.mono (K' := 0) (by omega) (show (0 : Int) ≤ 1920 by omega) (by omega) (by omega) (by omega)) (by omega) (by omega) (by omega) (by omega) (fun t h1 h2 => by omega) (fun t h1 h2 => ?_) fun F4 A4 v1 v2 v3 v4 => b_X10_led_90 x3.1.1 ?_
    · rw [show ((1 : Int) - 1).toNat + t = t by omega]
      exact ((hrun t).2.2.1 trivial).symm
    · rw [show ((n.toNat : Nat) : Int).toNat = n.toNat by omega] at v2
      have e62 : F4 62 3 = ledC σ i r n g := v2.1
      have hcc := (z1.trans x3).trans v1
      rw [e62]
      refine ⟨fun hlt => ⟨by omega, fun g1 hg1 => ?_⟩, fun hge => ?_⟩
      · have hno : ¬ p ≤ ledC σ i r n g := by omega
        by_cases hgh : (g : Int) ≤ σ.2.1 i 4 r
        · have e : g1 = (g : Int) - 1 := by omega
          rw [e]
          have := c_ledL (X := X) (k := k) hS hi h0 hr hp1 hn1 hn2 m g F4 A4 R1 (by omega) (by omega) v1.1 v1.2.1 fun F' A' R' y => by
            have hv := hq F' A' R' (hcc.trans y)
            have e2 : ledN σ i r n p (g + 1) = ledN σ i r n p g := by
              show (if p ≤ ledC σ i r n g then (g : Int) else ledN σ i r n p g) = _
              rw [if_neg hno]
            rwa [e2] at hv
          rw [show ((n.toNat : Nat) : Int) = n by omega]
          exact this
        · have e : g1 = ((σ.2.1 i 4 r).toNat : Int) - 1 := by omega
          rw [e]
          have := c_ledL (X := X) (k := k) hS hi h0 hr hp1 hn1 hn2 m (σ.2.1 i 4 r).toNat F4 A4 R1 (by omega) (by omega) v1.1 v1.2.1 fun F' A' R' y => by
            have hv := hq F' A' R' (hcc.trans y)
            have e2 := led_leap hS hi h0 hr hno (g - (σ.2.1 i 4 r).toNat) (by omega) (by omega)
            rw [e2, show g - (g - (σ.2.1 i 4 r).toNat) = (σ.2.1 i 4 r).toNat by omega] at hv
            exact hv
          rw [show ((n.toNat : Nat) : Int) = n by omega]
          exact this
      · have hv := hq F4 A4 R1 hcc
        have e2 : ledN σ i r n p (g + 1) = g := by
          show (if p ≤ ledC σ i r n g then (g : Int) else ledN σ i r n p g) = _
          rw [if_pos (by omega)]
        rwa [e2] at hv
theorem c_led {X : Int × (Int → Int)} {k : Nat} {Q : Vv → Fn2 → Fn2 → Fn2 → Prop} {F A R : Fn2} {σ : Sg} {q : Int → Int} {l s r p n : Int} (hS : SgI σ) (hB : CB σ q l F A R) (hC : CC σ q l F A R) (hq : ∀ F' A' R', CQ σ q l F A R F' A' R' → Q (vI (ansLed σ s r p n)) F' A' R') : Wp X (k + 9) m_X10_led [vA 0, vI s, vI r, vI p, vI n] F A R Q := by
  have no : ¬ ((0 ≤ s ∧ s < 4) ∧ (1 ≤ p ∧ p ≤ 99) ∧ (1 ≤ n ∧ n ≤ 1000) ∧ 0 ≤ r ∧ r < σ.2.1 s.toNat 0 0) → Q (vI (-1)) F A R := by
    intro h
    have := hq F A R (CQ.refl hB hC)
    unfold ansLed at this; rwa [if_neg h] at this
  refine Wp.of [vA 0, vI s, vI r, vI p, vI n, vN, vN] rfl rfl rfl (b_X10_led_0 (w_isRoom (k := k + 6) hB (fun i hi hs hr0 hr1 => ?_) (fun hno => b_X10_led_6 ⟨fun _ => b_X10_led_28 (no fun h => hno ⟨s.toNat, by omega, by omega, h.2.2.2⟩), fun h => absurd rfl h⟩)))
  subst hs
  have ei : ((i : Int)).toNat = i := by omega
  refine b_X10_led_6 ⟨fun h => absurd h (by decide), fun _ => ⟨fun h => b_X10_led_28 (no (by omega)), fun hp1 => ⟨fun h => b_X10_led_28 (no (by omega)), fun hp2 => ?_⟩⟩⟩
  have hst := hB.std hi
  have h7 := hB.2.2.2.2.2.2.1 i hi
  refine w_isCourse (k := k + 7) (fun n0 n1 => ?_) (fun h => b_X10_led_25 hB.1 h7.1 hst.1 ⟨fun h => absurd rfl h, fun _ => b_X10_led_28 (no fun h' => h h'.2.2.1)⟩)
  have h8 := (hS.2.2.2.2.2.2.1 i hi).1
  refine b_X10_led_25 hB.1 h7.1 hst.1 ⟨fun _ => ⟨by omega, by omega, hr0, by omega, fun g2 hg2 => ?_⟩, fun h => absurd h (by decide)⟩
  rw [h7.2.1 4 (by omega) (by omega)] at hg2
  subst hg2
  have := c_ledL (X := X) (k := k) (Q := Q) (q := q) (l := l) hS hi hr0 hr1 (show 1 ≤ p by omega) n0 n1 31 31 F A R (by omega) (by omega) hB hC fun F' A' R' y => by
    have hv := hq F' A' R' y
    unfold ansLed at hv
    rw [if_pos (by rw [ei]; omega), ei] at hv
    exact hv
  exact this
theorem r_ledL {X : Int × (Int → Int)} {k : Nat} {Q : Vv → Fn2 → Fn2 → Fn2 → Prop} {R : Fn2} {σ : Sg} {b : Int → Int} {r p n : Int} {i : Nat} (hR : RS R) (hS : SgI σ) (hi : i < 4) (h0 : 0 ≤ r) (hr : r < σ.2.1 i 0 0) (hn1 : 1 ≤ n) (hn2 : n ≤ 1000) : ∀ (g : Nat) (F A : Fn2), g ≤ 31 → XI σ b F A → (∀ F' A', XI σ b F' A' → RF F A F' A' → Q (vI (ledN σ i r n p g)) F' A' R) → G X (k + 7) m_X11_led Q 42 [vA 373, vI i, vI r, vI p, vI n, vI ((g : Int) - 1)] [] F A R
  | 0, F, A, hg, hX, hq => b_X11_led_42 ⟨fun _ => hq F A hX RF.refl, fun hx => absurd (show ((0 : Nat) : Int) - 1 < 0 by decide) hx⟩
  | g + 1, F, A, hg, hX, hq => by
    rw [show ((g + 1 : Nat) : Int) - 1 = g by omega]
    have he := (hX.2.2.1 i hi).2.1
    refine b_X11_led_42 ⟨fun hx => by omega, fun _ => ?_⟩
    refine x_beginX (k := k + 6) hR hX hi fun F1 A1 z x1 hX1 hrq hz hI h56 h57 hw hf hA => b_X11_led_52 ?_
    rw [show n = (n.toNat : Int) by omega]
    refine x_crs (k := k) (w := σ.2.1 i 5) hR hS hX hi (by omega) (by omega) (by omega) hr h56 hrq hz (fun r a b => (he.2.2.1 r a b).2.2.2.1) hI fun F2 A2 y1 y2 y3 => b_X11_led_61 ?_
    have x2 := y3.b.rf
    have e61 : F2 373 61 = ledC σ i r n g := y1
    rw [e61]
    refine ⟨fun hlt => ⟨by omega, ?_⟩, fun hge => ?_⟩
    · have := r_ledL (X := X) (k := k) hR hS hi h0 hr hn1 hn2 g F2 A2 (by omega) (hX1.rf x2) fun F' A' v1 v2 => by
        have hv := hq F' A' v1 ((x1.trans x2).trans v2)
        have e2 : ledN σ i r n p (g + 1) = ledN σ i r n p g := by
          show (if p ≤ ledC σ i r n g then (g : Int) else ledN σ i r n p g) = _
          rw [if_neg (by omega)]
        rwa [e2] at hv
      rw [show ((n.toNat : Nat) : Int) = n by omega, show (g : Int) + -1 = (g : Int) - 1 by omega]
      exact this
    · have hv := hq F2 A2 (hX1.rf x2) (x1.trans x2)
      have e2 : ledN σ i r n p (g + 1) = g := by
        show (if p ≤ ledC σ i r n g then (g : Int) else ledN σ i r n p g) = _
        rw [if_pos (by omega)]
      rwa [e2] at hv
theorem r_led {X : Int × (Int → Int)} {k : Nat} {Q : Vv → Fn2 → Fn2 → Fn2 → Prop} {F A R : Fn2} {σ : Sg} {b : Int → Int} {s r p n : Int} (hR : RS R) (hS : SgI σ) (hX : XI σ b F A) (hq : ∀ F' A', XI σ b F' A' → RF F A F' A' → Q (vI (ansLed σ s r p n)) F' A' R) : Wp X (k + 8) m_X11_led [vA 373, vI s, vI r, vI p, vI n] F A R Q := by
  have no : ¬ ((0 ≤ s ∧ s < 4) ∧ (1 ≤ p ∧ p ≤ 99) ∧ (1 ≤ n ∧ n ≤ 1000) ∧ 0 ≤ r ∧ r < σ.2.1 s.toNat 0 0) → Q (vI (-1)) F A R := by
    intro h
    have := hq F A hX RF.refl
    unfold ansLed at this; rwa [if_neg h] at this
  refine Wp.of [vA 373, vI s, vI r, vI p, vI n, vN] rfl rfl rfl (b_X11_led_0 (x_isShelf (k := k + 6) (fun h0 h4 => ?_) (fun h => b_X11_led_4 ⟨fun _ => no (fun h' => h h'.1), fun h => absurd rfl h⟩)))
  refine b_X11_led_4 ⟨fun h => absurd h (by decide), fun _ => x_isIn (k := k + 6) (fun p0 p1 => ?_) (fun h => b_X11_led_14 ⟨fun _ => no (fun h' => h h'.2.1), fun h => absurd rfl h⟩)⟩
  refine b_X11_led_14 ⟨fun h => absurd h (by decide), fun _ => x_isCourse (k := k + 5) (fun n0 n1 => ?_) (fun h => b_X11_led_22 ⟨fun h => absurd rfl h, fun _ => no (fun h' => h h'.2.2.1)⟩)⟩
  have hi : s.toNat < 4 := by omega
  have es : s = (s.toNat : Int) := by omega
  refine b_X11_led_22 ⟨fun _ => ?_, fun h => absurd h (by decide)⟩
  rw [es]
  refine x_isRoom (k := k + 5) hR hX hi (fun r0 r1 => b_X11_led_33 ⟨fun _ => ?_, fun h => absurd h (by decide)⟩) (fun h => b_X11_led_33 ⟨fun h => absurd rfl h, fun _ => no (fun h' => h h'.2.2.2)⟩)
  exact r_ledL (X := X) (k := k) (Q := Q) (R := R) (b := b) (p := p) hR hS hi r0 r1 n0 n1 31 F A (by omega) hX fun F' A' y1 y2 => by
    have hv := hq F' A' y1 y2
    unfold ansLed at hv
    rw [if_pos ⟨⟨h0, h4⟩, ⟨p0, p1⟩, ⟨n0, n1⟩, r0, r1⟩] at hv
    exact hv
