/-! years of the reference; parts of both -/
theorem RQ.rxb0 {b cw jn t : Int} {P z F A F' A' : Fn2} {C : Nat → Option (List Int)} (h : RQ b cw jn t P C z F A) (x : ∀ a, a < 396 ∨ 407 < a ∨ a = 397 → A' a = A a) (x2 : ∀ f, f = 48 ∨ f = 49 → F' 373 f = F 373 f) : XE b P C F' A' := by
  obtain ⟨⟨m1, m2, m3, m4, m5, m6, m7, m8⟩, -⟩ := h
  have z : ∀ i c, XL1 A i c → XL1 A' i c := fun i c hc => hc.of (x _ (by omega)) (x _ (by omega)) (x _ (by omega)) (x _ (by omega)) (x _ (by omega))
  refine ⟨?_, m2, m3, ?_, ?_, z _ _ m6, z _ _ m7, z _ _ m8⟩
  · rw [x2 _ (by omega)]; exact m1
  · rw [RPm_st (A := A) (A' := A') (fun a h1 h2 => x a (by omega))]; exact m4
  · rw [x2 _ (by omega)]; exact m5
theorem x_narL {X : Int × (Int → Int)} {k : Nat} {Q : Vv → Fn2 → Fn2 → Fn2 → Prop} {R : Fn2} {b cw jn t n s y : Int} {x4 : Int} {P : Fn2} {C : Nat → Option (List Int)} {K tt c a gg : Int} (hR : RS R) (hP : WFP P) (hy : 0 ≤ y ∧ y ≤ 100) {F : Fn2} : ∀ (m : Nat) (j : Int) (z A : Fn2), RQ b cw jn t P C z F A → Iv P K tt c a gg z → 0 ≤ j → j + m = P 0 0 → (∀ A' w, RQ b cw jn t P C (lp (narS P) m j z) F A' → (∀ a, a ≠ 400 → A' a = A a) → G X k m_X11_years Q 30 [vA 373, vI s, vI n, vI (y + 1), vI x4, vI w] [] F A' R) → G X k m_X11_years Q 83 [vA 373, vI s, vI n, vI y, vI x4, vI j] [] F A R
  | 0, j, z, A, h, hI, hj, hm, hq => by
    refine b_X11_years_83 hR ?_
    rw [h.1.2.2.2.2.1]
    exact ⟨fun _ => ⟨by omega, hq A _ h (fun _ _ => rfl)⟩, fun hx => by omega⟩
  | m + 1, j, z, A, h, hI, hj, hm, hq => by
    have hrr := hP.1
    have hb := h.1.1
    have hb2 : 0 ≤ b ∧ b ≤ 4 := ⟨h.1.2.1, h.1.2.2.1⟩
    have hp := h.1.p (r := j)
    have hw := hI.1.2 j hj (by omega)
    have hI' := narS_iv (r := j) hI hj (by omega)
    have nx : ∀ A1 v, A1 = st2 A 400 j v → (P 1 j = 1 ∧ v = max 0 (z 2 j - 1) ∨ P 1 j ≠ 1 ∧ v = z 2 j) → G X k m_X11_years Q 83 [vA 373, vI s, vI n, vI y, vI x4, vI (j + 1)] [] F A1 R := by
      intro A1 v hA1 hv
      obtain ⟨g1, ⟨k1, k2, k3, k4⟩, g3⟩ := id h
      have e3 : A1 400 = (narS P j z) 2 := by
        rw [hA1, st2_s, k3]
        unfold narS
        rcases hv with ⟨h1, h2⟩ | ⟨h1, h2⟩
        · rw [if_pos h1, st2_s, h2]
        · rw [if_neg h1, h2, u1_self]
      have eo : ∀ x, x ≠ 2 → (narS P j z) x = z x := fun x hx => by
        unfold narS; split
        · exact st2_n hx
        · rfl
      have h' : RQ b cw jn t P C (narS P j z) F A1 := by
        refine ⟨h.rxb0 (fun a ha => by rw [hA1, st2_n (by omega)]) (fun _ _ => rfl), ⟨?_, ?_, e3, ?_⟩, ?_⟩
        · rw [hA1, st2_n (by decide), eo 0 (by decide)]; exact k1
        · rw [hA1, st2_n (by decide), eo 1 (by decide)]; exact k2
        · rw [eo 9 (by decide)]; exact k4
        · rw [eo 9 (by decide)]; exact g3
      exact x_narL hR hP hy m (j + 1) (narS P j z) A1 h' hI' (by omega) (by omega) fun A' w y1 y2 => hq A' w y1 fun a ha => by rw [y2 a ha, hA1, st2_n ha]
    refine b_X11_years_83 hR ?_
    rw [h.1.2.2.2.2.1, hb, hp.2.2.2.2.1, h.2.1.2.2.1]
    refine ⟨fun hx => by omega, fun _ => ⟨hj, by omega, by omega, by omega, by omega, by omega, fun hz => ⟨by omega, fun A1 hA1 => ⟨by omega, nx A1 _ hA1 (by omega)⟩⟩, fun hz => ⟨fun hw0 => ⟨by omega, fun A1 hA1 => ⟨by omega, nx A1 _ hA1 (by omega)⟩⟩, fun hw0 => ⟨by omega, fun A1 hA1 => ⟨by omega, nx A1 _ hA1 (by omega)⟩⟩⟩⟩⟩
def YSr (σ : Sg) (i n y j : Nat) (P' s : Fn2) : Prop := SEq True True (σ.2.1 i) (itS (yrF σ i) j (yrS σ i n y)) s ∧ Iv P' (19512 * (y * n + j : Nat)) 1920 (240 * (y * n + j : Nat)) (2712 * (y * n + j : Nat)) (792 * (y * n + j : Nat)) s
def RPq (hi : Int) (t g : Int) (F A : Fn2) : Prop := ∃ p, PlI t p ∧ F 373 61 = p 3 0 ∧ F 373 62 = p 3 1 ∧ p 3 1 = g ∧ PlR 405 406 407 p A
theorem r_yearL {X : Int × (Int → Int)} {k : Nat} {Q : Vv → Fn2 → Fn2 → Fn2 → Prop} {R : Fn2} {σ : Sg} {b : Int → Int} {i n : Nat} {P' F0 A0 : Fn2} (hR : RS R) (hS : SgI σ) (hi : i < 4) (hn : n ≤ 100) (hn1 : 1 ≤ n) (hP' : WFP P') (he : PEq (σ.2.1 i) P') (h56 : F0 373 56 = σ.1 0 2) : ∀ (m y : Nat), y + m = 20 → ∀ (d j : Nat) (x4 : Int) (s F A : Fn2) (w5 : Vv), j + d = n → m ≠ 0 → RXB F0 A0 F A → RQ (b i) (σ.1 0 1) 1 (y * n + j : Nat) P' σ.2.2 s F A → YSr σ i n y j P' s → RPq (σ.1 0 2) (y * n + j : Nat) (yPl σ i n y j) F A → (x4 = 0 ↔ yBg σ i n y j = 0) → 0 ≤ x4 → x4 ≤ j → (∀ F' A', RXB F0 A0 F' A' → Q (vI (yrN σ i n m y)) F' A' R) → G X (k + 6) m_X11_years Q 39 [vA 373, vI i, vI n, vI ((y : Int) + 1), vI x4, w5] [] F A R := by
  intro m
  have hP := hS.2.2.2.2.2.2.1 i hi
  induction m with
  | zero => intro y hy d j x4 s F A w5 hd hm; exact absurd rfl hm
  | succ m ihm =>
    intro y hy d
    induction d with
    | zero =>
      intro j x4 s F A w5 hd hm hX hrq hY hp hx4 hx0 hxj hq
      have e : j = n := by omega
      subst e
      have hle := yr_le (y := y) (n := j) (j := j) (by omega) hn (by omega)
      have ey : ((y : Int) + 1) * (j : Int) = ((y * j + j : Nat) : Int) := by rw [Int.natCast_add, Int.natCast_mul, Int.add_mul, Int.one_mul]
      refine b_X11_years_39 ?_
      rw [ey, hrq.2.2.2.2.2]
      refine ⟨by omega, fun _ => ⟨fun hb => ?_, fun hb => ?_⟩, fun h => by omega⟩
      · have hv : ∀ F' A'', RXB F0 A0 F' A'' → Q (vI (yrN σ i j m (y + 1))) F' A'' R := fun F' A'' z => by
          have := hq F' A'' z
          have e2 : yrN σ i j (m + 1) y = yrN σ i j m (y + 1) := by
            show (if yBg σ i j y j = 0 then (y : Int) + 1 else yrN σ i j m (y + 1)) = _
            rw [if_neg (fun h => hb (hx4.2 h))]
          rwa [e2] at this
        refine x_narL hR hP' (by omega) (rms P') 0 s A hrq hY.2 (by omega) (by rw [rms_e hP']; omega) fun A' w y1 y2 => ?_
        have x1 : RXB F0 A0 F A' := ⟨fun a ha => by rw [y2 a (by omega)]; exact hX.1 a ha, hX.2⟩
        cases m with
        | zero => exact b_X11_years_30 ⟨fun _ => hv F A' x1, fun h => absurd (show (20 : Int) < (y : Int) + 1 + 1 by omega) h⟩
        | succ m =>
          have en : (y + 1) * j + 0 = y * j + j := by rw [Nat.add_mul]; omega
          have ep : yPl σ i j (y + 1) 0 = yPl σ i j y j := by
            obtain ⟨j', ej⟩ : ∃ j', j = j' + 1 := ⟨j - 1, by omega⟩
            subst ej
            rw [yPl_s]
            show (if j' + 1 = 0 then (0 : Int) else if σ.1 0 2 ≤ yT σ i (j' + 1) y (j' + 1) then 1 else 0) = _
            rw [if_neg (show ¬ j' + 1 = 0 by omega)]
          have h3 := ihm (y + 1) (by omega) j 0 0 (narA P' s) F A' (vI w) (by omega) (by omega) x1 (by rw [en]; exact y1) ⟨narA_cong hP he hY.1, by
            rw [en]; exact narA_iv hP' hY.2⟩ (by
            rw [en, ep]
            obtain ⟨p, p1, p2, p3, p4, p5⟩ := hp
            exact ⟨p, p1, p2, p3, p4, fun i a b => by rw [y2 _ (by decide), y2 _ (by decide), y2 _ (by decide)]; exact p5 i a b⟩) (by
            show (0 : Int) = 0 ↔ (0 : Int) = 0
            exact Iff.rfl) (by omega) (by omega) hv
          refine b_X11_years_30 ⟨fun h => by omega, fun _ => ?_⟩
          rw [show (y : Int) + 1 + 1 = ((y + 1 : Nat) : Int) + 1 by omega]
          exact h3
      · have := hq F A hX
        have e2 : yrN σ i j (m + 1) y = (y : Int) + 1 := by
          show (if yBg σ i j y j = 0 then (y : Int) + 1 else yrN σ i j m (y + 1)) = _
          rw [if_pos (hx4.1 hb)]
        rwa [e2] at this
    | succ d ih =>
      intro j x4 s F A w5 hd hm hX hrq hY hp hx4 hx0 hxj hq
      have hle := yr_le (y := y) (n := n) (j := j + 1) (by omega) hn (by omega)
      have ey : ((y : Int) + 1) * (n : Int) = ((y * n + n : Nat) : Int) := by rw [Int.natCast_add, Int.natCast_mul, Int.add_mul, Int.one_mul]
      have hle2 := yr_le (y := y) (n := n) (j := n) (by omega) hn (by omega)
      refine b_X11_years_39 ?_
      rw [ey, hrq.2.2.2.2.2]
      refine ⟨by omega, fun h => by omega, fun _ => ?_⟩
      refine x_sec (k := k) hR hP' hY.2 (by omega) (by omega) (by omega) (by omega) hS.2.1.1 hS.2.1.2 (by omega) (by omega) hrq fun F1 A1 y1 y2 y3 y4 y5 => b_X11_years_53 ?_
      have hY1 : YSr σ i n y (j + 1) P' (tick0 P' (LwF σ.2.2) (σ.1 0 1) 1 s) := by
        refine ⟨?_, ?_⟩
        · have := tick0_cong (L := LwF σ.2.2) (cw := σ.1 0 1) (jn := 1) hP he hY.1
          have e : itS (yrF σ i) (j + 1) (yrS σ i n y) = tick0 (σ.2.1 i) (LwF σ.2.2) (σ.1 0 1) 1 (itS (yrF σ i) j (yrS σ i n y)) := by
            show tickA (σ.2.1 i) (LwF σ.2.2) (σ.1 0 1) 1 (-1) 0 (itS (yrF σ i) j (yrS σ i n y)) = _
            exact tick_led0 (by omega)
          rw [e]; exact this
        · have := iv_tick0 (jn := 1) (L := LwF σ.2.2) hY.2 hP' LwF_ok hS.2.1.1 hS.2.1.2
          exact this.mono (by omega) (by omega) (by omega) (by omega) (by omega)
      have hk := hY1.2.2.2
      unfold Bk at hk
      have e51 : F1 373 51 = yT σ i n y (j + 1) := (y1.2.1.2.2.2.1).trans (hY1.1.2.2.1 trivial).symm
      have eT : tick0 P' (LwF σ.2.2) (σ.1 0 1) 1 s 9 15 = yT σ i n y (j + 1) := (hY1.1.2.2.1 trivial).symm
      obtain ⟨p, p1, p2, p3, p4, p5⟩ := hp
      have x1 := hX.trans y2.b
      refine x_see (k := k + 5) (hi := σ.1 0 2) (T := yT σ i n y (j + 1)) (t := (y * n + j : Nat)) (p := p) hR p1 (by omega) (by omega) e51 (by rw [← eT]; omega) y1.2.2.2.2.2 (by rw [x1.2 _ _ (by omega)]; exact h56) (by rw [y4]; exact p2) (by rw [y5]; exact p3) (fun i a b => by rw [y3 _ (by omega) (by omega), y3 _ (by omega) (by omega), y3 _ (by omega) (by omega)]; exact p5 i a b) fun F2 A2 z1 z2 z3 z4 z5 => ?_
      have x2 : RX F1 A1 F2 A2 := ⟨fun a ha => z4 a (by omega), fun x f hx => z5 x f (by omega)⟩
      have hrq2 : RQ (b i) (σ.1 0 1) 1 ((y * n + (j + 1) : Nat)) P' σ.2.2 (tick0 P' (LwF σ.2.2) (σ.1 0 1) 1 s) F2 A2 := by
        obtain ⟨g1, ⟨k1, k2, k3, k4, k5, k6⟩, g3, g4, g5, g6⟩ := y1
        refine ⟨g1.rx x2, ⟨?_, ?_, ?_, ?_, ?_, ?_⟩, ?_, ?_, ?_, ?_⟩
        · rw [z4 _ (by omega)]; exact k1
        · rw [z4 _ (by omega)]; exact k2
        · rw [z4 _ (by omega)]; exact k3
        · rw [z5 _ _ (by omega)]; exact k4
        · rw [z5 _ _ (by omega)]; exact k5
        · rw [z5 _ _ (by omega)]; exact k6
        · rw [z5 _ _ (by omega)]; exact g3
        · rw [z5 _ _ (by omega)]; exact g4
        · rw [z5 _ _ (by omega)]; exact g5
        · rw [z5 _ _ (by omega), g6]; omega
      have hp' : RPq (σ.1 0 2) ((y * n + (j + 1) : Nat)) (yPl σ i n y (j + 1)) F2 A2 := by
        have hpl := plI_psS (hi := σ.1 0 2) (T := yT σ i n y (j + 1)) p1 (by omega)
        refine ⟨_, by rw [show ((y * n + (j + 1) : Nat) : Int) = ((y * n + j : Nat) : Int) + 1 by omega]; exact hpl, z1, z2, ?_, z3⟩
        rw [yPl_s]
        unfold psS
        by_cases hT : σ.1 0 2 ≤ yT σ i n y (j + 1)
        · rw [if_pos hT, if_pos hT]; exact psB_3.2.1
        · rw [if_neg hT, if_neg hT]; simp only [ne_eq, Int.add_right_inj, Int.reduceEq, not_false_eq_true, st2_n, st2_s, u1_s, u1_u1]
      rw [p4]
      have ubg : yBg σ i n y (j + 1) = if yBg σ i n y j = 0 then (if σ.1 0 2 ≤ yT σ i n y (j + 1) ∧ yPl σ i n y j = 0 then 1 else 0) else 1 := rfl
      have nx : ∀ (g : Int), (g = 0 ↔ yBg σ i n y (j + 1) = 0) → 0 ≤ g → g ≤ ((j + 1 : Nat) : Int) → G X (k + 6) m_X11_years Q 39 [vA 373, vI i, vI n, vI ((y : Int) + 1), vI g, w5] [] F2 A2 R := fun g hg h0 h1 =>
        ih (j + 1) g _ F2 A2 w5 (by omega) hm (x1.trans x2.b) hrq2 hY1 hp' hg h0 h1 hq
      by_cases hc : σ.1 0 2 ≤ yT σ i n y (j + 1) ∧ yPl σ i n y j = 0
      · rw [if_pos hc]
        refine b_X11_years_59 ⟨fun h => absurd h (by decide), fun _ => ⟨by omega, fun g hg => ?_⟩⟩
        rw [hg]
        refine nx _ ?_ (by omega) (by omega)
        rw [ubg]
        by_cases hb : yBg σ i n y j = 0
        · rw [if_pos hb, if_pos hc]; omega
        · rw [if_neg hb]; omega
      · rw [if_neg hc]
        refine b_X11_years_59 ⟨fun _ => ⟨by omega, fun g hg => ?_⟩, fun h => absurd rfl h⟩
        rw [hg]
        refine nx _ ?_ (by omega) (by omega)
        rw [ubg]
        by_cases hb : yBg σ i n y j = 0
        · rw [if_pos hb, if_neg hc]; have := hx4.2 hb; omega
        · rw [if_neg hb]
          have : x4 ≠ 0 := fun h => hb (hx4.1 h)
          omega
theorem r_years {X : Int × (Int → Int)} {k : Nat} {Q : Vv → Fn2 → Fn2 → Fn2 → Prop} {F A R : Fn2} {σ : Sg} {b : Int → Int} {s n : Int} (hR : RS R) (hS : SgI σ) (hX : XI σ b F A) (hq : ∀ F' A', XI σ b F' A' → RF F A F' A' → Q (vI (ansYears σ s n)) F' A' R) : Wp X (k + 7) m_X11_years [vA 373, vI s, vI n] F A R Q := by
  have no : ¬ ((0 ≤ s ∧ s < 4) ∧ 1 ≤ n ∧ n ≤ 100) → Q (vI (-1)) F A R := by
    intro h
    have := hq F A hX RF.refl
    unfold ansYears at this; rwa [if_neg h] at this
  refine Wp.of [vA 373, vI s, vI n, vN, vN, vN] rfl rfl rfl (b_X11_years_0 (x_isShelf (k := k + 5) (fun h0 h4 => ?_) (fun h => b_X11_years_4 ⟨fun _ => no (fun h' => h h'.1), fun h => absurd rfl h⟩)))
  refine b_X11_years_4 ⟨fun h => absurd h (by decide), fun _ => x_isIn (k := k + 5) (fun n0 n1 => ?_) (fun h => b_X11_years_14 ⟨fun h => absurd rfl h, fun _ => no (fun h' => h h'.2)⟩)⟩
  have hi : s.toNat < 4 := by omega
  have he := (hX.2.2.1 s.toNat hi).2.1
  have hP' := (hX.2.2.1 s.toNat hi).2.2
  rw [show s = (s.toNat : Int) by omega, show n = (n.toNat : Int) by omega]
  refine b_X11_years_14 ⟨fun _ => ?_, fun h => absurd h (by decide)⟩
  refine x_beginX (k := k + 5) hR hX hi fun F1 A1 z x1 hX1 hrq hz hI h56 h57 hw hf hA => b_X11_years_24 (Wp.of (k := k + 5) [vA 373] rfl rfl rfl (b_X11_beginPlays_0 fun F2 h2 F3 h3 => b_X11_years_28 (b_X11_years_30 ⟨fun h => absurd h (by decide), fun _ => ?_⟩)))
  have x2 : RX F1 A1 F3 A1 := ⟨fun _ _ => rfl, fun x f hx => by
    rw [h3, h2]
    by_cases e : x = 373
    · subst e; rw [st2_s, u1_n (by omega), st2_s, u1_n (by omega)]
    · rw [st2_n e, st2_n e]⟩
  have hrq3 : RQ (b s.toNat) (σ.1 0 1) 1 0 (RPm (b s.toNat) A) σ.2.2 z F3 A1 := by
    obtain ⟨g1, ⟨k1, k2, k3, k4, k5, k6⟩, g3, g4, g5, g6⟩ := hrq
    refine ⟨g1.rx x2, ⟨k1, k2, k3, ?_, ?_, ?_⟩, ?_, ?_, ?_, ?_⟩ <;> rw [h3, h2] <;> simp only [ne_eq, Int.add_right_inj, Int.reduceEq, not_false_eq_true, st2_n, st2_s, u1_s, u1_u1, u1_n] <;> assumption
  have hP := hS.2.2.2.2.2.2.1 s.toNat hi
  have := r_yearL (X := X) (k := k) (Q := Q) (b := b) (F0 := F3) (A0 := A1) hR hS hi (show n.toNat ≤ 100 by omega) (by omega) hP' he (by rw [h3, h2]; simp only [ne_eq, Int.add_right_inj, Int.reduceEq, not_false_eq_true, st2_n, st2_s, u1_s, u1_u1, u1_n]; exact h56) 20 0 rfl n.toNat 0 0 z F3 A1 vN (by omega) (by omega) RXB.refl (by simpa using hrq3) ⟨?_, by
    refine hI.mono ?_ ?_ ?_ ?_ ?_ <;> simp⟩ ⟨fun _ _ => 0, ?_, ?_, ?_, rfl, fun i a b => by simp at b; omega⟩ (by
      show (0 : Int) = 0 ↔ (0 : Int) = 0
      exact Iff.rfl) (by omega) (by omega) fun F' A' y => by
    have x3 := (x1.trans x2.b.rf).trans y.rf
    have := hq F' A' (hX.rf x3) x3
    unfold ansYears at this
    rwa [if_pos ⟨⟨h0, h4⟩, n0, n1⟩] at this
  · exact this
  · have h1 : SEq True True (σ.2.1 s.toNat) (zeroS (σ.2.1 s.toNat 5)) (zeroS (RPm (b s.toNat) A 5)) := ⟨fun _ _ _ => ⟨rfl, rfl⟩, fun r a b' => (he.2.2.1 r a b').2.2.2.1, fun _ => rfl, fun _ => ⟨rfl, rfl, rfl⟩⟩
    exact h1.trans ((hz.of0 he.1.symm).symm)
  · simpa [psN] using plI (hi := σ.1 0 2) (T := fun _ => 0) 0
  · rw [h3, h2]; simp only [ne_eq, Int.add_right_inj, Int.reduceEq, not_false_eq_true, st2_n, st2_s, u1_s, u1_u1, u1_n]
  · rw [h3, h2]; simp only [ne_eq, Int.add_right_inj, Int.reduceEq, not_false_eq_true, st2_n, st2_s, u1_s, u1_u1]
