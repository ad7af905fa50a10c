/-! years -/
def narS (P : Fn2) (r : Int) (s : Fn2) : Fn2 := if P 1 r = 1 then st2 s 2 r (max 0 (s 2 r - 1)) else s
def narA (P s : Fn2) : Fn2 := lp (narS P) (rms P) 0 s
theorem narS_iv {P s : Fn2} {K t c a g r : Int} (h : Iv P K t c a g s) (h0 : 0 ≤ r) (hr : r < P 0 0) : Iv P K t c a g (narS P r s) := by
  unfold narS
  split
  · obtain ⟨hb, hp, hk⟩ := h
    refine ⟨⟨fun x a b => ?_, fun x a b => ?_⟩, by rw [pot_9 (by decide) (by decide)]; exact hp, hk.o (by decide)⟩
    · simp only [ne_eq, Int.add_right_inj, Int.reduceEq, not_false_eq_true, st2_n, st2_s, u1_s, u1_u1]; exact hb.1 x a b
    · have := hb.2 x a b
      have h2 := hb.2 r h0 hr
      simp only [ne_eq, Int.add_right_inj, Int.reduceEq, not_false_eq_true, st2_n, st2_s, u1_s, u1_u1]
      by_cases e : x = r
      · subst e; rw [u1_s]; omega
      · rw [u1_n e]; exact this
  · exact h
theorem narA_iv {P s : Fn2} {K t c a g : Int} (hP : WFP P) (h : Iv P K t c a g s) : Iv P K t c a g (narA P s) := by
  have := lp_inv (f := narS P) (fun i x => 0 ≤ i ∧ Iv P K t c a g x) (b := P 0 0) (fun i x hi h => ⟨by omega, narS_iv h.2 h.1 hi⟩) (rms P) 0 s (by rw [rms_e hP]; omega) ⟨by omega, h⟩
  exact this.2
theorem narS_cong {τ β : Prop} {P P' s s' : Fn2} {r : Int} (he : PEq P P') (hs : SEq τ β P s s') (h0 : 0 ≤ r) (hr : r < P 0 0) : SEq τ β P (narS P r s) (narS P' r s') := by
  unfold narS
  rw [← (he.2.2.1 r h0 hr).1]
  by_cases h1 : P 1 r = 1
  · rw [if_pos h1, if_pos h1, hs.2.1 r h0 hr]
    obtain ⟨a1, a2, a3, a4⟩ := hs
    refine ⟨fun x a b => ?_, fun x a b => ?_, fun ht => ?_, fun hb => ?_⟩
    · simp only [ne_eq, Int.add_right_inj, Int.reduceEq, not_false_eq_true, st2_n, st2_s, u1_s, u1_u1]; exact a1 x a b
    · simp only [ne_eq, Int.add_right_inj, Int.reduceEq, not_false_eq_true, st2_n, st2_s, u1_s, u1_u1]
      by_cases e : x = r
      · subst e; rw [u1_s, u1_s]
      · rw [u1_n e, u1_n e]; exact a2 x a b
    · simp only [ne_eq, Int.add_right_inj, Int.reduceEq, not_false_eq_true, st2_n, st2_s, u1_s, u1_u1]; exact a3 ht
    · simp only [ne_eq, Int.add_right_inj, Int.reduceEq, not_false_eq_true, st2_n, st2_s, u1_s, u1_u1]; exact a4 hb
  · rw [if_neg h1, if_neg h1]; exact hs
theorem narA_cong {τ β : Prop} {P P' s s' : Fn2} (hP : WFP P) (he : PEq P P') (hs : SEq τ β P s s') : SEq τ β P (narA P s) (narA P' s') := by
  have er : rms P' = rms P := by unfold rms; rw [he.1]
  have e1 := rms_e hP
  unfold narA
  rw [er]
  exact lp_rel (SEq τ β P) (a := 0) (b := P 0 0) (fun i x y a b hxy => narS_cong (r := i) he hxy a b) (rms P) 0 _ _ (by omega) (by omega) hs
theorem c_narL {X : Int × (Int → Int)} {k : Nat} {Q : Vv → Fn2 → Fn2 → Fn2 → Prop} {R : Fn2} {o q l : Int} {P : Fn2} {C : Nat → Option (List Int)} {K t c a g : Int} (hR : RS R) (ho : At_Flow o) (hP : WFP P) : ∀ (m : Nat) (j : Int) (s F A : Fn2), FE o q l P C F A R → FS o s F A → Iv P K t c a g s → 0 ≤ j → j + m = P 0 0 → (∀ A', FS o (lp (narS P) m j s) F A' → FX o l F A F A' → Q vN F A' R) → G X k m_X2_narrowNecks Q 2 [vA o, vI j] [] F A R
  | 0, j, s, F, A, hE, hs, hI, hj, hm, hq => by
    refine b_X2_narrowNecks_2 hR ho hE.1 hE.2.1 ⟨fun _ => hq A hs FX.refl, fun hx => ?_⟩
    rw [hE.2.2.2.2.1.2.1] at hx; omega
  | m + 1, j, s, F, A, hE, hs, hI, hj, hm, hq => by
    have hrr := hP.1
    have hS := hE.2.2.2.2.1
    obtain ⟨e0, e1, e2, e3, f5⟩ := id hs
    have h2 := hI.1.2 j hj (by omega)
    have hI' := narS_iv (r := j) hI hj (by omega)
    refine b_X2_narrowNecks_2 hR ho hE.1 hE.2.1 ⟨fun hx => ?_, fun _ => ⟨hj, by omega, ?_⟩⟩
    · rw [hS.2.1] at hx; omega
    rw [hS.1 1 (by omega) (by omega), e2]
    refine ⟨fun hz => ⟨by omega, ?_⟩, fun hz => ⟨by omega, fun A1 hA1 => ⟨by omega, ?_⟩⟩⟩
    · have e : narS P j s = s := by unfold narS; rw [if_neg hz]
      refine c_narL hR ho hP m (j + 1) s F A hE hs hI (by omega) (by omega) fun A' y1 y2 => hq A' ?_ y2
      show FS o (lp (narS P) m (j + 1) (narS P j s)) F A'
      rw [e]; exact y1
    · have x5 : FX o l F A F A1 := by rw [hA1]; exact FX.refl.a (by omega) (by omega)
      refine c_narL hR ho hP m (j + 1) (narS P j s) F A1 (hE.fx ho x5) ?_ hI' (by omega) (by omega) fun A' y1 y2 => hq A' y1 (x5.trans y2)
      unfold narS; rw [if_pos hz, hA1]
      refine ⟨?_, ?_, ?_, ?_, f5⟩ <;> simp only [ne_eq, Int.add_right_inj, Int.reduceEq, not_false_eq_true, st2_n, st2_s, u1_s, u1_u1] <;> first | assumption | rw [e2]
def yrF (σ : Sg) (i : Nat) : Fn2 → Fn2 := tickA (σ.2.1 i) (LwF σ.2.2) (σ.1 0 1) 1 (-1) 0
def yrS (σ : Sg) (i : Nat) (n : Nat) : Nat → Fn2
  | 0 => zeroS (σ.2.1 i 5)
  | y + 1 => narA (σ.2.1 i) (itS (yrF σ i) n (yrS σ i n y))
def yT (σ : Sg) (i n y j : Nat) : Int := itS (yrF σ i) j (yrS σ i n y) 9 15
/-- whether a play goes on behind second j of year y -/
def yPl (σ : Sg) (i n : Nat) : Nat → Nat → Int
  | 0, 0 => 0
  | y + 1, 0 => if n = 0 then 0 else if σ.1 0 2 ≤ yT σ i n y n then 1 else 0
  | y, j + 1 => if σ.1 0 2 ≤ yT σ i n y (j + 1) then 1 else 0
/-- whether one has begun in year y so far -/
def yBg (σ : Sg) (i n y : Nat) : Nat → Int
  | 0 => 0
  | j + 1 => if yBg σ i n y j = 0 then (if σ.1 0 2 ≤ yT σ i n y (j + 1) ∧ yPl σ i n y j = 0 then 1 else 0) else 1
def yrN (σ : Sg) (i n : Nat) : Nat → Nat → Int
  | 0, _ => -1
  | m + 1, y => if yBg σ i n y n = 0 then (y : Int) + 1 else yrN σ i n m (y + 1)
def ansYears (σ : Sg) (s n : Int) : Int := if (0 ≤ s ∧ s < 4) ∧ 1 ≤ n ∧ n ≤ 100 then yrN σ s.toNat n.toNat 20 0 else -1
theorem yPl_s {σ : Sg} {i n y j : Nat} : yPl σ i n y (j + 1) = if σ.1 0 2 ≤ yT σ i n y (j + 1) then 1 else 0 := by cases y <;> rfl
theorem yPl_01 {σ : Sg} {i n y j : Nat} : yPl σ i n y j = 0 ∨ yPl σ i n y j = 1 := by
  cases j with
  | zero =>
    cases y with
    | zero => exact Or.inl rfl
    | succ y =>
      unfold yPl
      repeat' split
      all_goals (first | exact Or.inl rfl | exact Or.inr rfl)
  | succ j =>
    rw [yPl_s]
    split
    · exact Or.inr rfl
    · exact Or.inl rfl
theorem yBg_01 {σ : Sg} {i n y : Nat} : ∀ j, yBg σ i n y j = 0 ∨ yBg σ i n y j = 1
  | 0 => Or.inl rfl
  | j + 1 => by
    unfold yBg
    repeat' split
    all_goals (first | exact Or.inl rfl | exact Or.inr rfl)
/-- a state that is year y's second j, but for what nobody sees -/
def YSt (σ : Sg) (i n y j : Nat) (s : Fn2) : Prop := SEq True True (σ.2.1 i) s (itS (yrF σ i) j (yrS σ i n y)) ∧ Iv (σ.2.1 i) (19512 * (y * n + j : Nat)) 1920 (240 * (y * n + j : Nat)) (2712 * (y * n + j : Nat)) (792 * (y * n + j : Nat)) s
theorem yr_le {y n j : Nat} (hy : y < 20) (hn : n ≤ 100) (hj : j ≤ n) : y * n + j ≤ 2000 := by
  have := Nat.mul_le_mul (show y ≤ 19 by omega) hn
  omega
theorem TrR.tx {σ : Sg} {q : Int → Int} {l : Int} {i : Nat} {jn lr lg : Int} {s s' F A R F' A' : Fn2} (h : TrR σ q l i jn lr lg s F A R) (x : TX l F A F' A') (hs : FS 28 s' F' A') : TrR σ q l i jn lr lg s' F' A' R := by
  obtain ⟨t1, t2, t3, t4, t5, t6⟩ := h
  refine ⟨t1.tx x, hs, ?_, ?_, ?_, ?_⟩
  · rw [x.2 _ _ (by omega)]; exact t3
  · rw [x.2 _ _ (by omega)]; exact t4
  · rw [x.2 _ _ (by omega)]; exact t5
  · rw [x.2 _ _ (by omega)]; exact t6
theorem c_yearL {X : Int × (Int → Int)} {k : Nat} {Q : Vv → Fn2 → Fn2 → Fn2 → Prop} {R : Fn2} {σ : Sg} {q : Int → Int} {l : Int} {i n : Nat} (hS : SgI σ) (hi : i < 4) (hn : n ≤ 100) (hn1 : 1 ≤ n) : ∀ (m y : Nat), y + m = 20 → ∀ (d j : Nat) (s F A : Fn2) (w7 : Vv), j + d = n → m ≠ 0 → CB σ q l F A R → CC σ q l F A R → TrR σ q l i 1 (-1) 0 s F A R → YSt σ i n y j s → (∀ F' A', CQ σ q l F A R F' A' R → Q (vI (yrN σ i n m y)) F' A' R) → G X (k + 6) m_X10_years Q 43 [vA 0, vI i, vI n, vI (yPl σ i n y j), vI ((y : Int) + 1), vI (yBg σ i n y j), vI ((j : Int) + 1), w7] [] F A R := by
  intro m
  have hP := hS.2.2.2.2.2.2.1 i hi
  induction m with
  | zero => intro y hy d j s F A w7 hd hm; exact absurd rfl hm
  | succ m ihm =>
    intro y hy d
    induction d with
    | zero =>
      intro j s F A w7 hd hm hB hC hT hY hq
      have e : j = n := by omega
      subst e
      have hT' := hT
      obtain ⟨t1, t2, t3, t4, t5, t6⟩ := hT'
      refine b_X10_years_43 hB.1 ⟨fun _ => ⟨fun hb => ?_, fun hb => ?_⟩, fun h => by omega⟩
      · refine Wp.of (k := k + 5) [vA 28, vN] rfl rfl rfl (b_X2_narrowNecks_0 at_28 (c_narL hB.1 at_28 hP (rms (σ.2.1 i)) 0 s F A t1 t2 hY.2 (by omega) (by rw [rms_e hP]; omega) fun A' y1 y2 => b_X10_years_131 ⟨by omega, ?_⟩))
        have x1 := y2.tx.cq hB hC
        have hv : ∀ F' A'', CQ σ q l F A R F' A'' R → Q (vI (yrN σ i j m (y + 1))) F' A'' R := fun F' A'' z => by
          have := hq F' A'' z
          have e2 : yrN σ i j (m + 1) y = yrN σ i j m (y + 1) := by
            show (if yBg σ i j y j = 0 then (y : Int) + 1 else yrN σ i j m (y + 1)) = _
            rw [if_neg hb]
          rwa [e2] at this
        cases m with
        | zero => exact b_X10_years_30 ⟨fun _ => hv F A' x1, fun h => absurd (show (20 : Int) < (y : Int) + 1 + 1 by omega) h⟩
        | succ m =>
          have h3 := ihm (y + 1) (by omega) j 0 (narA (σ.2.1 i) s) F A' w7 (by omega) (by omega) x1.1 x1.2.1 (hT.tx y2.tx y1) ⟨narA_cong hP PEq.refl hY.1, by
            have := narA_iv hP hY.2
            rw [show (y + 1) * j + 0 = y * j + j by rw [Nat.add_mul]; omega]
            exact this⟩ fun F' A'' z => hv F' A'' (x1.trans z)
          have ep : yPl σ i j (y + 1) 0 = yPl σ i j y j := by
            obtain ⟨j', ej⟩ : ∃ j', j = j' + 1 := ⟨j - 1, by omega⟩
            subst ej
            rw [yPl_s]
            show (if j' + 1 = 0 then (0 : Int) else if σ.1 0 2 ≤ yT σ i (j' + 1) y (j' + 1) then 1 else 0) = _
            rw [if_neg (show ¬ j' + 1 = 0 by omega)]
          rw [ep] at h3
          refine b_X10_years_30 ⟨fun h => by omega, fun _ => ?_⟩
          rw [show (y : Int) + 1 + 1 = ((y + 1 : Nat) : Int) + 1 by omega]
          exact h3
      · have := hq F A (CQ.refl hB hC)
        have e2 : yrN σ i j (m + 1) y = (y : Int) + 1 := by
          show (if yBg σ i j y j = 0 then (y : Int) + 1 else yrN σ i j m (y + 1)) = _
          rw [if_pos hb]
        rwa [e2] at this
    | succ d ih =>
      intro j s F A w7 hd hm hB hC hT hY hq
      have hT' := hT
      obtain ⟨t1, t2, t3, t4, t5, t6⟩ := hT'
      have hle := yr_le (y := y) (n := n) (j := j + 1) (by omega) hn (by omega)
      refine b_X10_years_43 hB.1 ⟨fun h => by omega, fun _ => ?_⟩
      refine c_pass (k := k + 1) (cw := σ.1 0 1) (jn := 1) (lr := -1) (lg := 0) hB.1 at_28 hP hY.2 (by omega) (by omega) (by omega) (by omega) (by omega) t1 t2 t3 hS.2.1.1 hS.2.1.2 t4 t5 t6 (by omega) fun F1 A1 y1 y2 => ?_
      have x1 := y2.tx.cq hB hC
      have hY1 : YSt σ i n y (j + 1) (yrF σ i s) := by
        refine ⟨(tick_cong hP PEq.refl hY.1).weak (fun _ => trivial) id, ?_⟩
        have := iv_tick (jn := 1) (lr := -1) (lg := 0) (L := LwF σ.2.2) hY.2 hP LwF_ok hS.2.1.1 hS.2.1.2 (by omega)
        exact this.mono (by omega) (by omega) (by omega) (by omega) (by omega)
      have hT1 := hT.tx y2.tx y1
      have e15 : F1 28 15 = yT σ i n y (j + 1) := (y1.2.2.2.2.1).trans (hY1.1.2.2.1 trivial)
      refine b_X10_years_59 x1.1.1 ?_
      rw [e15, x1.1.2.2.2.2.2.2.2.2.2.2.2.2.1]
      have nx : ∀ (p g : Int) (w : Vv), p = yPl σ i n y (j + 1) → g = yBg σ i n y (j + 1) → G X (k + 6) m_X10_years Q 43 [vA 0, vI i, vI n, vI p, vI ((y : Int) + 1), vI g, vI ((j : Int) + 1 + 1), w] [] F1 A1 R := by
        intro p g w hp hg
        have := ih (j + 1) (yrF σ i s) F1 A1 w (by omega) hm x1.1 x1.2.1 hT1 hY1 fun F' A' z => hq F' A' (x1.trans z)
        rw [hp, hg]
        exact this
      have ubg : yBg σ i n y (j + 1) = if yBg σ i n y j = 0 then (if σ.1 0 2 ≤ yT σ i n y (j + 1) ∧ yPl σ i n y j = 0 then 1 else 0) else 1 := rfl
      refine ⟨fun hlt => ⟨fun hb => ⟨by omega, nx _ _ _ ?_ ?_⟩, fun hb => ⟨by omega, nx _ _ _ ?_ ?_⟩⟩, fun hge => ⟨fun hb => ⟨by omega, nx _ _ _ ?_ ?_⟩, fun hb => ⟨fun hp => ⟨by omega, nx _ _ _ ?_ ?_⟩, fun hp => ⟨by omega, nx _ _ _ ?_ ?_⟩⟩⟩⟩
      · rw [yPl_s, if_neg (by omega)]
      · rw [ubg, if_neg hb]
      · rw [yPl_s, if_neg (by omega)]
      · rw [ubg, if_pos hb, if_neg (by omega)]
      · rw [yPl_s, if_pos (by omega)]
      · rw [ubg, if_neg hb]
      · rw [yPl_s, if_pos (by omega)]
      · rw [ubg, if_pos hb, if_neg (fun h => hp h.2)]
      · rw [yPl_s, if_pos (by omega)]
      · rw [ubg, if_pos hb, if_pos ⟨by omega, hp⟩]
theorem c_years {X : Int × (Int → Int)} {k : Nat} {Q : Vv → Fn2 → Fn2 → Fn2 → Prop} {F A R : Fn2} {σ : Sg} {q : Int → Int} {l s n : Int} (hS : SgI σ) (hB : CB σ q l F A R) (hC : CC σ q l F A R) (hq : ∀ F' A' R', CQ σ q l F A R F' A' R' → Q (vI (ansYears σ s n)) F' A' R') : Wp X (k + 7) m_X10_years [vA 0, vI s, vI n] F A R Q := by
  have no : ¬ ((0 ≤ s ∧ s < 4) ∧ 1 ≤ n ∧ n ≤ 100) → Q (vI (-1)) F A R := by
    intro h
    have := hq F A R (CQ.refl hB hC)
    unfold ansYears at this; rwa [if_neg h] at this
  refine Wp.of [vA 0, vI s, vI n, vN, vN, vN, vN, vN] rfl rfl rfl (b_X10_years_0 (w_isShelf (k := k + 5) (fun h0 h4 => ?_) (fun h => b_X10_years_4 ⟨fun _ => no (fun h' => h h'.1), fun h => absurd rfl h⟩)))
  refine b_X10_years_4 ⟨fun h => absurd h (by decide), fun _ => ⟨fun h => no (by omega), fun n0 => ⟨fun n1 => ?_, fun h => no (by omega)⟩⟩⟩
  have hi : s.toNat < 4 := by omega
  have hv : ∀ F' A' R', CQ σ q l F A R F' A' R' → Q (vI (yrN σ s.toNat n.toNat 20 0)) F' A' R' := fun F' A' R' z => by
    have := hq F' A' R' z
    unfold ansYears at this; rwa [if_pos (by omega)] at this
  rw [show s = (s.toNat : Int) by omega, show n = (n.toNat : Int) by omega]
  refine w_beginT (k := k + 3) hS hB hC hi fun F1 A1 R1 z z1 z2 z3 z4 z5 z6 z7 => b_X10_years_25 (b_X10_years_30 ⟨fun h => absurd h (by decide), fun _ => ?_⟩)
  have := c_yearL (X := X) (k := k) (Q := Q) hS hi (show n.toNat ≤ 100 by omega) (by omega) 20 0 rfl n.toNat 0 z F1 A1 vN (by omega) (by omega) z1.1 z1.2.1 z2 ⟨z3, by
    refine z4.mono ?_ ?_ ?_ ?_ ?_ <;> simp⟩ fun F' A' y => hv F' A' R1 (z1.trans y)
  exact this
