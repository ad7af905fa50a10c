/-! shook of the reference -/
def RK (F A F' A' : Fn2) : Prop := (∀ a, a < 396 ∨ 407 < a ∨ a = 397 → A' a = A a) ∧ ∀ x f, x ≠ 373 ∨ f < 48 ∨ 54 < f ∧ f ≠ 61 ∧ f ≠ 62 ∧ f ≠ 57 ∧ f ≠ 83 ∧ f ≠ 84 ∧ f ≠ 85 → F' x f = F x f
theorem RK.refl {F A : Fn2} : RK F A F A := ⟨fun _ _ => rfl, fun _ _ _ => rfl⟩
theorem RK.trans {F A F1 A1 F2 A2 : Fn2} (h : RK F A F1 A1) (g : RK F1 A1 F2 A2) : RK F A F2 A2 :=
  ⟨fun a h1 => (g.1 a h1).trans (h.1 a h1), fun x f h1 => (g.2 x f h1).trans (h.2 x f h1)⟩
theorem RK.rf {F A F' A' : Fn2} (h : RK F A F' A') : RF F A F' A' := ⟨fun a h1 => h.1 a (by omega), fun f h1 => h.2 373 f (by omega), fun a h1 => funext fun f => h.2 a f (Or.inl h1)⟩
theorem RX.k {F A F' A' : Fn2} (h : RX F A F' A') : RK F A F' A' := ⟨fun a h1 => h.1 a (by omega), fun x f h1 => h.2 x f (by omega)⟩
def RB3 (b : B3) (F : Fn2) : Prop := F 373 85 = b.1 ∧ F 373 83 = b.2.1 ∧ (0 ≤ b.2.1 → F 373 84 = b.2.2)
theorem r_shk1 {X : Int × (Int → Int)} {k : Nat} {Q : Vv → Fn2 → Fn2 → Fn2 → Prop} {R : Fn2} {σ : Sg} {b : Int → Int} {i r : Nat} {b0 : B3} {F0 A0 : Fn2} (hR : RS R) (hS : SgI σ) (hX0 : XI σ b F0 A0) (hi : i < 4) (hr : (r : Int) < σ.2.1 i 0 0) {far : Nat} (hf1 : 1 ≤ far) (hf : far ≤ 30) (hq : ∀ F' A' w7 x6, RK F0 A0 F' A' → RB3 (shL σ i r (2 * far) b0) F' → G X (k + 8) m_X11_seekShook Q 54 [vA 373, vI i, vI (σ.2.1 i 0 0), vI r, vI (σ.2.1 i 5 r), vI ((far : Int) + 1), vI x6, w7] [] F' A' R) : ∀ (m : Nat) (n : Nat) (x6 : Int) (F A : Fn2) (w7 : Vv), n + m = 2 * far → (m = 2 ∧ x6 = -1 ∨ m = 1 ∧ x6 = 1 ∨ m = 0 ∧ x6 = 3) → RK F0 A0 F A → RB3 (shL σ i r n b0) F → G X (k + 8) m_X11_seekShook Q 64 [vA 373, vI i, vI (σ.2.1 i 0 0), vI r, vI (σ.2.1 i 5 r), vI far, vI x6, w7] [] F A R
  | 0, n, x6, F, A, w7, hm, hx, hX, hb => by
    have e : n = 2 * far := by omega
    subst e
    exact b_X11_seekShook_64 ⟨fun _ => ⟨by omega, hq F A w7 x6 hX hb⟩, fun h => absurd h (by omega)⟩
  | m + 1, n, x6, F, A, w7, hm, hx, hX, hb => by
    have hP := hS.2.2.2.2.2.2.1 i hi
    have h8 := hP.1
    have hp5 := hP.2.1 r (by omega) hr
    have hX1 := hX0.rf hX.rf
    have he := (hX1.2.2.1 i hi).2.1
    have ew : σ.2.1 i 5 r + x6 * far = shW (σ.2.1 i 5 r) ((n : Int) + 2) := by
      unfold shW
      rcases hx with ⟨h1, h2⟩ | ⟨h1, h2⟩ | ⟨h1, h2⟩
      · subst h2; rw [if_pos (by omega)]; omega
      · subst h2; rw [if_neg (by omega)]; omega
      · omega
    have ub : shL σ i r (n + 1) b0 = shS σ i r ((n : Int) + 2) (shL σ i r n b0) := rfl
    have nx : ∀ F1 A1 w7, RK F0 A0 F1 A1 → RB3 (shL σ i r (n + 1) b0) F1 → G X (k + 8) m_X11_seekShook Q 64 [vA 373, vI i, vI (σ.2.1 i 0 0), vI r, vI (σ.2.1 i 5 r), vI far, vI (x6 + 2), w7] [] F1 A1 R := fun F1 A1 w7 y1 y2 =>
      r_shk1 hR hS hX0 hi hr hf1 hf hq m (n + 1) (x6 + 2) F1 A1 w7 (by omega) (by omega) y1 y2
    have hmul : x6 * far = -(far : Int) ∨ x6 * far = far := by
      rcases hx with ⟨h1, h2⟩ | ⟨h1, h2⟩ | ⟨h1, h2⟩
      · subst h2; left; omega
      · subst h2; right; omega
      · omega
    refine b_X11_seekShook_64 ⟨fun h => by omega, fun _ => ⟨by omega, by omega, x_isIn (k := k + 7) (fun v0 v1 => ?_) (fun h => b_X11_seekShook_84 ⟨fun h' => absurd rfl h', fun _ => ⟨by omega, nx F A _ hX ?_⟩⟩)⟩⟩
    · refine b_X11_seekShook_84 ⟨fun _ => ?_, fun h => absurd h (by decide)⟩
      refine x_beginX (k := k + 7) hR hX1 hi fun F1 A1 z x1 hX2 hrq hz hI h56 h57 hw hfr hA => b_X11_seekShook_95 hR ⟨by omega, by omega, by omega, by omega, fun A2 hA2 => ?_⟩
      have xb : RK F A F1 A1 := ⟨fun a ha => hA a (by omega), fun x f hx => by
        by_cases e : x = 373
        · subst e; exact hfr f (by omega)
        · exact congrFun (x1.2.2 x e) f⟩
      have hz2 : SEq True True (RPm (b i) A) (st2 z 2 r (σ.2.1 i 5 r + x6 * far)) (zeroS (u1 (RPm (b i) A 5) r (σ.2.1 i 5 r + x6 * far))) := by
        obtain ⟨a1, a2, a3, a4⟩ := hz
        refine ⟨fun x a b => ?_, fun x a b' => ?_, fun h => ?_, fun h => ?_⟩
        · simp only [ne_eq, Int.add_right_inj, Int.reduceEq, not_false_eq_true, st2_n, st2_s, u1_s, u1_u1]; exact a1 x a b
        · simp only [ne_eq, Int.add_right_inj, Int.reduceEq, not_false_eq_true, st2_n, st2_s, u1_s, u1_u1]
          show _ = u1 (RPm (b i) A 5) r _ x
          by_cases e : x = r
          · subst e; rw [u1_s, u1_s]
          · rw [u1_n e, u1_n e]; exact a2 x a b'
        · simp only [ne_eq, Int.add_right_inj, Int.reduceEq, not_false_eq_true, st2_n, st2_s, u1_s, u1_u1]; exact a3 h
        · simp only [ne_eq, Int.add_right_inj, Int.reduceEq, not_false_eq_true, st2_n, st2_s, u1_s, u1_u1]; exact a4 h
      have hI2 : Iv (RPm (b i) A) 0 0 0 0 0 (st2 z 2 r (σ.2.1 i 5 r + x6 * far)) := by
        obtain ⟨hb, hp, hk⟩ := hI
        refine ⟨⟨fun x a b => ?_, fun x a b' => ?_⟩, by rw [pot_9 (by decide) (by decide)]; exact hp, hk.o (by decide)⟩
        · simp only [ne_eq, Int.add_right_inj, Int.reduceEq, not_false_eq_true, st2_n, st2_s, u1_s, u1_u1]; exact hb.1 x a b
        · have := hb.2 x a b'
          simp only [ne_eq, Int.add_right_inj, Int.reduceEq, not_false_eq_true, st2_n, st2_s, u1_s, u1_u1]
          by_cases e : x = r
          · subst e; rw [u1_s]; omega
          · rw [u1_n e]; exact this
      have hrq2 : RQ (b i) (σ.1 0 1) 1 0 (RPm (b i) A) σ.2.2 (st2 z 2 r (σ.2.1 i 5 r + x6 * far)) F1 A2 := by
        obtain ⟨g1, ⟨k1, k2, k3, k4⟩, g3⟩ := id hrq
        refine ⟨hrq.rxb0 (fun a ha => by rw [hA2, st2_n (by omega)]) (fun _ _ => rfl), ⟨?_, ?_, ?_, ?_⟩, ?_⟩
        · rw [hA2, st2_n (by decide), st2_n (by decide)]; exact k1
        · rw [hA2, st2_n (by decide), st2_n (by decide)]; exact k2
        · rw [hA2, st2_s, st2_s, k3]
        · rw [st2_n (by decide)]; exact k4
        · rw [st2_n (by decide)]; exact g3
      refine x_crs (k := k + 1) (N := 500) (jn := 1) (lr := -1) (lg := 0) (w := u1 (σ.2.1 i 5) r (σ.2.1 i 5 r + x6 * far)) hR hS hX1 hi (by omega) (by omega) (by omega) (by omega) h56 hrq2 hz2 (fun x a b' => ?_) hI2 fun F3 A3 y1 y2 y3 => ?_
      · by_cases e : x = r
        · subst e; rw [u1_s, u1_s]
        · rw [u1_n e, u1_n e]; exact (he.2.2.1 x a b').2.2.2.1
      · have x3 : RK F0 A0 F3 A3 := ((hX.trans xb).trans ⟨fun a ha => by rw [hA2, st2_n (by omega)], fun _ _ _ => rfl⟩).trans y3.k
        have hX3 := hX0.rf x3.rf
        have hb3 : RB3 (shL σ i r n b0) F3 := by
          obtain ⟨f1, f2, f3⟩ := hb
          have e : ∀ f, 83 ≤ f → f ≤ 85 → F3 373 f = F 373 f := fun f h1 h2 => by rw [y3.2 _ _ (by omega), hfr f (by omega)]
          refine ⟨?_, ?_, fun h => ?_⟩
          · rw [e _ (by omega) (by omega)]; exact f1
          · rw [e _ (by omega) (by omega)]; exact f2
          · rw [e _ (by omega) (by omega)]; exact f3 h
        refine b_X11_seekShook_118 (x_rightS (k := k + 7) (T := thG σ i 1 (-1) 0 (u1 (σ.2.1 i 5) r (σ.2.1 i 5 r + x6 * far))) hR hS hX3 y1 y2 ?_)
        show G X (k + 8) m_X11_seekShook Q 122 _ [vI (rwS σ i r (σ.2.1 i 5 r + x6 * far))] F3 A3 R
        refine b_X11_seekShook_122 ?_
        rw [hb3.1]
        refine ⟨fun hlt F4 h4 F5 h5 => ⟨by omega, by omega, fun F6 h6 => ⟨by omega, nx F6 A3 _ ?_ ?_⟩⟩, fun hge => ⟨by omega, nx F3 A3 _ x3 ?_⟩⟩
        · refine ⟨x3.1, fun x f hx => ?_⟩
          rw [h6, h5, h4]
          by_cases e : x = 373
          · subst e; rw [st2_s, u1_n (by omega), st2_s, u1_n (by omega), st2_s, u1_n (by omega)]; exact x3.2 _ f hx
          · rw [st2_n e, st2_n e, st2_n e]; exact x3.2 x f hx
        · rw [ub]
          unfold shS
          rw [← ew, if_pos ⟨v0, v1, hlt⟩]
          refine ⟨?_, ?_, fun _ => ?_⟩ <;> rw [h6, h5, h4] <;> simp only [ne_eq, Int.add_right_inj, Int.reduceEq, not_false_eq_true, st2_n, st2_s, u1_s, u1_u1, u1_n]
        · rw [ub]
          unfold shS
          rw [← ew, if_neg (fun h => hge h.2.2)]; exact hb3
    · rw [ub]
      unfold shS
      rw [← ew, if_neg (fun h' => h ⟨h'.1, h'.2.1⟩)]; exact hb
theorem r_shk2 {X : Int × (Int → Int)} {k : Nat} {Q : Vv → Fn2 → Fn2 → Fn2 → Prop} {R : Fn2} {σ : Sg} {b : Int → Int} {i r : Nat} {b0 : B3} {F0 A0 : Fn2} (hR : RS R) (hS : SgI σ) (hX0 : XI σ b F0 A0) (hi : i < 4) (hr : (r : Int) < σ.2.1 i 0 0) (hq : ∀ F' A' x5 w6 w7, RK F0 A0 F' A' → RB3 (shL σ i r 60 b0) F' → G X (k + 8) m_X11_seekShook Q 28 [vA 373, vI i, vI (σ.2.1 i 0 0), vI ((r : Int) + 1), vI (σ.2.1 i 5 r), vI x5, w6, w7] [] F' A' R) : ∀ (m far : Nat) (F A : Fn2) (w6 w7 : Vv), far + m = 31 → 1 ≤ far → RK F0 A0 F A → RB3 (shL σ i r (2 * (far - 1)) b0) F → G X (k + 8) m_X11_seekShook Q 54 [vA 373, vI i, vI (σ.2.1 i 0 0), vI r, vI (σ.2.1 i 5 r), vI far, w6, w7] [] F A R
  | 0, far, F, A, w6, w7, hm, h1, hX, hb => by
    have h8 := (hS.2.2.2.2.2.2.1 i hi).1
    have e : far = 31 := by omega
    subst e
    exact b_X11_seekShook_54 ⟨fun _ => ⟨by omega, hq F A _ w6 w7 hX hb⟩, fun h => absurd (show (30 : Int) < ((31 : Nat) : Int) by decide) h⟩
  | m + 1, far, F, A, w6, w7, hm, h1, hX, hb => by
    refine b_X11_seekShook_54 ⟨fun h => by omega, fun _ => ?_⟩
    refine r_shk1 (X := X) (k := k) (b0 := b0) hR hS hX0 hi hr h1 (by omega) (fun F' A' w7 x6 y1 y2 => ?_) 2 (2 * (far - 1)) (-1) F A w7 (by omega) (Or.inl ⟨rfl, rfl⟩) hX hb
    have := r_shk2 (X := X) (k := k) hR hS hX0 hi hr hq m (far + 1) F' A' (vI x6) w7 (by omega) (by omega) y1 (by rw [show 2 * (far + 1 - 1) = 2 * far by omega]; exact y2)
    exact this
theorem r_shk3 {X : Int × (Int → Int)} {k : Nat} {Q : Vv → Fn2 → Fn2 → Fn2 → Prop} {R : Fn2} {σ : Sg} {b : Int → Int} {i : Nat} {F0 A0 : Fn2} (hR : RS R) (hS : SgI σ) (hX0 : XI σ b F0 A0) (hi : i < 4) (hq : ∀ F' A', RK F0 A0 F' A' → RB3 (shR σ i (rms (σ.2.1 i))) F' → Q vN F' A' R) : ∀ (m r : Nat) (F A : Fn2) (w4 w5 w6 w7 : Vv), (r : Int) + m = σ.2.1 i 0 0 → RK F0 A0 F A → RB3 (shR σ i r) F → G X (k + 8) m_X11_seekShook Q 28 [vA 373, vI i, vI (σ.2.1 i 0 0), vI r, w4, w5, w6, w7] [] F A R
  | 0, r, F, A, w4, w5, w6, w7, hm, hX, hb => by
    have hP := hS.2.2.2.2.2.2.1 i hi
    have e : r = rms (σ.2.1 i) := by have := rms_e hP; omega
    subst e
    exact b_X11_seekShook_28 hR ⟨fun _ => hq F A hX hb, fun h => absurd h (by omega)⟩
  | m + 1, r, F, A, w4, w5, w6, w7, hm, hX, hb => by
    have hP := hS.2.2.2.2.2.2.1 i hi
    have h8 := hP.1
    have hX1 := hX0.rf hX.rf
    obtain ⟨c1, c2, c3⟩ := hX1.2.2.1 i hi
    have c4 := hX1.1 i (by omega) (by omega)
    have e382 : A 382 (8 * b i + r) = σ.2.1 i 5 r := by
      rw [(c2.2.2.1 r (by omega) (by omega)).2.2.2.1, RPm_5]
    refine b_X11_seekShook_28 hR ⟨fun h => by omega, fun _ => ⟨by omega, by omega, ?_⟩⟩
    rw [c1, e382]
    refine ⟨by omega, by omega, by omega, by omega, fun g1 hg1 => ?_⟩
    subst hg1
    have := r_shk2 (X := X) (k := k) (Q := Q) (R := R) (b0 := shR σ i r) hR hS hX0 hi (show (r : Int) < σ.2.1 i 0 0 by omega) (fun F' A' x5 w6 w7 y1 y2 => by
      have := r_shk3 (X := X) (k := k) hR hS hX0 hi hq m (r + 1) F' A' (vI (σ.2.1 i 5 r)) (vI x5) w6 w7 (by omega) y1 y2
      exact this) 30 1 F A w6 w7 (by omega) (by omega) hX hb
    exact this
theorem r_shook {X : Int × (Int → Int)} {k : Nat} {Q : Vv → Fn2 → Fn2 → Fn2 → Prop} {F A R : Fn2} {σ : Sg} {b : Int → Int} {s w : Int} (hR : RS R) (hS : SgI σ) (hX : XI σ b F A) (hq : ∀ F' A', XI σ b F' A' → RF F A F' A' → Q (vI (ansShook σ s w)) F' A' R) : Wp X (k + 10) m_X11_shook [vA 373, vI s, vI w] F A R Q := by
  have no : ¬ ((0 ≤ s ∧ s < 4) ∧ 0 ≤ w ∧ w ≤ 2) → Q (vI (-1)) F A R := by
    intro h
    have := hq F A hX RF.refl
    unfold ansShook at this; rwa [if_neg h] at this
  refine Wp.of [vA 373, vI s, vI w] rfl rfl rfl (b_X11_shook_0 (x_isShelf (k := k + 8) (fun h0 h4 => ?_) (fun h => b_X11_shook_4 ⟨fun _ => no (fun h' => h h'.1), fun h => absurd rfl h⟩)))
  refine b_X11_shook_4 ⟨fun h => absurd h (by decide), fun _ => x_isIn (k := k + 8) (fun w0 w2 => ?_) (fun h => b_X11_shook_13 ⟨fun h => absurd rfl h, fun _ => no (fun h' => h h'.2)⟩)⟩
  have hi : s.toNat < 4 := by omega
  have hP := hS.2.2.2.2.2.2.1 s.toNat hi
  refine b_X11_shook_13 ⟨fun _ => ?_, fun h => absurd h (by decide)⟩
  rw [show s = (s.toNat : Int) by omega]
  refine Wp.of (k := k + 8) [vA 373, vI s.toNat, vN, vN, vN, vN, vN, vN] rfl rfl rfl (b_X11_seekShook_0 ?_)
  refine x_courseOf (k := k) (N := 500) hR hS hX hi (by omega) fun F1 A1 hX1 y2 y3 y4 y5 y6 y7 => b_X11_seekShook_8 (x_rightS (k := k + 7) (T := th σ s.toNat) hR hS hX1 y3 y4 (b_X11_seekShook_13 fun F2 h2 F3 h3 g3 hg3 => ?_))
  have e49 : F3 373 49 = σ.2.1 s.toNat 0 0 := by rw [h3, h2]; simp only [ne_eq, Int.add_right_inj, Int.reduceEq, not_false_eq_true, st2_n, st2_s, u1_s, u1_u1, u1_n]; exact y7
  rw [e49] at hg3
  subst hg3
  have x3 : RK F1 A1 F3 A1 := ⟨fun _ _ => rfl, fun x f hx => by
    rw [h3, h2]
    by_cases e : x = 373
    · subst e; rw [st2_s, u1_n (by omega), st2_s, u1_n (by omega)]
    · rw [st2_n e, st2_n e]⟩
  have := r_shk3 (X := X) (k := k) (F0 := F1) (A0 := A1) (Q := fun v F A R => G X (k + 9) m_X11_shook Q 23 [vA 373, vI s.toNat, vI w] [] F A R) hR hS hX1 hi (fun F' A' z1 z2 => ?_) (rms (σ.2.1 s.toNat)) 0 F3 A1 vN vN vN vN (by have := rms_e hP; omega) x3 ⟨by rw [h3, h2]; simp only [ne_eq, Int.add_right_inj, Int.reduceEq, not_false_eq_true, st2_n, st2_s, u1_s, u1_u1, u1_n]; rfl, by rw [h3]; simp only [ne_eq, Int.add_right_inj, Int.reduceEq, not_false_eq_true, st2_n, st2_s, u1_s, u1_u1]; rfl, fun h => absurd (show (0 : Int) ≤ -1 from h) (by decide)⟩
  · exact this
  · have xx := y2.trans z1.rf
    have hv := hq F' A' (hX.rf xx) xx
    unfold ansShook at hv
    rw [if_pos ⟨⟨h0, h4⟩, w0, w2⟩] at hv
    refine b_X11_shook_23 ?_
    rw [z2.1, z2.2.1]
    refine ⟨fun h => ⟨fun h1 => ⟨fun h2 => ?_, fun h2 => ?_⟩, fun h1 => ?_⟩, fun h => ?_⟩
    · rwa [if_neg h, if_neg h1, if_neg h2] at hv
    · rw [if_neg h, if_neg h1, if_pos h2] at hv
      rw [z2.2.2 (by omega)]; exact hv
    · rwa [if_neg h, if_pos h1] at hv
    · rwa [if_pos h] at hv
