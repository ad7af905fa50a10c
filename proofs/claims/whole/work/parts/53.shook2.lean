/-! shook, both sides, to its end -/
theorem shS_b {σ : Sg} (hS : SgI σ) {i : Nat} {r s : Int} {b : B3} (h : 0 ≤ b.1 ∧ b.1 ≤ 40) : 0 ≤ (shS σ i r s b).1 ∧ (shS σ i r s b).1 ≤ 40 := by
  unfold shS
  split
  · have := rtS_b hS (T := thG σ i 1 (-1) 0 (u1 (σ.2.1 i 5) r (shW (σ.2.1 i 5 r) s)))
    have hL40 := hS.2.2.2.2.2.1.2.1
    show 0 ≤ rwS σ i r (shW (σ.2.1 i 5 r) s) ∧ rwS σ i r (shW (σ.2.1 i 5 r) s) ≤ 40
    unfold rwS
    omega
  · exact h
theorem shL_b {σ : Sg} (hS : SgI σ) {i : Nat} {r : Int} {b : B3} (h : 0 ≤ b.1 ∧ b.1 ≤ 40) : ∀ n, 0 ≤ (shL σ i r n b).1 ∧ (shL σ i r n b).1 ≤ 40
  | 0 => h
  | n + 1 => shS_b hS (shL_b hS h n)
theorem shR_b {σ : Sg} (hS : SgI σ) {i : Nat} : ∀ n, 0 ≤ (shR σ i n).1 ∧ (shR σ i n).1 ≤ 40
  | 0 => by
    have := rtS_b hS (T := th σ i)
    have hL40 := hS.2.2.2.2.2.1.2.1
    show 0 ≤ rtS σ (th σ i) ∧ rtS σ (th σ i) ≤ 40
    omega
  | n + 1 => shL_b hS (shR_b hS n) 60
theorem c_shk2 {X : Int × (Int → Int)} {k : Nat} {Q : Vv → Fn2 → Fn2 → Fn2 → Prop} {σ : Sg} {q : Int → Int} {l : Int} {i : Nat} (hS : SgI σ) (hi : i < 4) : ∀ (m r : Nat) (F A R : Fn2) (w5 w6 w7 w8 w9 : Vv), (r : Int) + m = σ.2.1 i 0 0 → CB σ q l F A R → CC σ q l F A R → ShF i (shR σ i r) F → (∀ F' A' R', CG σ q l F A R F' A' R' → ShF i (shR σ i (rms (σ.2.1 i))) F' → Q vN F' A' R') → G X (k + 8) m_X10_shake Q 77 [vA 0, vI i, vI (shR σ i r).1, vI (σ.2.1 i 0 0), vI r, w5, w6, w7, w8, w9] [] F A R
  | 0, r, F, A, R, w5, w6, w7, w8, w9, hm, hB, hC, hF, hq => by
    have hP := hS.2.2.2.2.2.2.1 i hi
    have h7 := hB.2.2.2.2.2.2.1 i hi
    have hst := hB.std hi
    have e : r = rms (σ.2.1 i) := by have := rms_e hP; omega
    subst e
    exact b_X10_shake_77 hB.1 h7.1 hst.1 ⟨fun _ => hq F A R (CQ.refl hB hC).g hF, fun h => absurd h (by omega)⟩
  | m + 1, r, F, A, R, w5, w6, w7, w8, w9, hm, hB, hC, hF, hq => by
    have hP := hS.2.2.2.2.2.2.1 i hi
    have h8 := hP.1
    have h7 := hB.2.2.2.2.2.2.1 i hi
    have hst := hB.std hi
    have hb := shR_b hS (i := i) r
    refine b_X10_shake_77 hB.1 h7.1 hst.1 ⟨fun h => by omega, fun _ => ⟨by omega, by omega, by omega, by omega, fun g2 hg2 => ?_⟩⟩
    rw [h7.2.1 5 (by omega) (by omega)] at hg2
    subst hg2
    have := c_shk1 (X := X) (k := k) (Q := Q) (q := q) (l := l) hS hi (show (r : Int) < σ.2.1 i 0 0 by omega) 60 0 (shR σ i r) 31 F A R w8 w9 rfl hB hC hF (fun w h1 h2 h3 => by omega) hb.1 hb.2 fun F' A' R' x5 x6 x7 w8 w9 y1 y2 => by
      have := c_shk2 (X := X) (k := k) (Q := Q) hS hi m (r + 1) F' A' R' (vI x5) (vI x6) (vI x7) w8 w9 (by omega) y1.1 y1.2.1 y2 fun F'' A'' R'' z1 z2 => hq F'' A'' R'' (y1.trans z1) z2
      exact this
    exact this
theorem c_shake {X : Int × (Int → Int)} {k : Nat} {Q : Vv → Fn2 → Fn2 → Fn2 → Prop} {F A R : Fn2} {σ : Sg} {q : Int → Int} {l : Int} {i : Nat} (hS : SgI σ) (hB : CB σ q l F A R) (hC : CC σ q l F A R) (hi : i < 4) (hq : ∀ F' A' R', CG σ q l F A R F' A' R' → ShF i (shR σ i (rms (σ.2.1 i))) F' → Q vN F' A' R') : Wp X (k + 9) m_X10_shake [vA 0, vI i] F A R Q := by
  refine Wp.of [vA 0, vI i, vN, vN, vN, vN, vN, vN, vN, vN] rfl rfl rfl (b_X10_shake_0 hB.1 hB.2.2.2.2.1 (lawD_at hB.2.2.1) fun F1 h1 F2 h2 F3 h3 F4 h4 => ⟨by omega, by omega, ?_⟩)
  have x4 : ∀ a f, a ≠ 0 ∨ f < 15 ∨ 18 < f → F4 a f = F a f := fun a f hx => by
    rw [h4, h3, h2, h1]
    by_cases e : a = 0
    · subst e; rw [st2_s, u1_n (by omega), st2_s, u1_n (by omega), st2_s, u1_n (by omega), st2_s, u1_n (by omega)]
    · rw [st2_n e, st2_n e, st2_n e, st2_n e]
  obtain ⟨g1, g2, g3⟩ := f0_qf hB hC x4
  have c4 : CG σ q l F A R F4 A R := ⟨g1, g2, g3, fun f => x4 _ _ (by omega), fun _ _ _ => rfl⟩
  have hF4 : ShF i (-1, -1, -1) F4 := by
    refine ⟨?_, ?_, ?_, ?_⟩ <;> rw [h4, h3, h2, h1] <;> simp only [ne_eq, Int.add_right_inj, Int.reduceEq, not_false_eq_true, st2_n, st2_s, u1_s, u1_u1, u1_n]
    rw [if_pos (by decide)]
  rw [g1.2.2.2.2.2.2.2.2.2.2.2.1]
  refine w_goOnC (k := k + 1) (n := 500) hS g1 g2 hi (by omega) (by omega) fun F5 A5 R5 y1 y2 => ?_
  have c5 := c4.trans y1.g
  have hF5 := hF4.k y1.2.2.2
  refine b_X10_shake_40 c5.1.1 ⟨by omega, by omega, ?_⟩
  rw [c5.1.2.2.2.2.2.2.2.2.2.2.2.2.1]
  have ec : (189 + 46 * (i : Int)) + 42 = crs i + 42 := rfl
  rw [ec]
  refine w_alikeS (k := k + 6) (T := th σ i) hS c5.1 c5.2.1 (la_Course_4 (crs_at hi)) (ln_Course_4 (crs_at hi)) (by unfold crs; omega) (fun s h1 h2 => (y2 s (by omega)).2.1) fun A6 y3 _ => ?_
  have c6 := c5.trans y3.g
  have h7 := c6.1.2.2.2.2.2.2.1 i hi
  have hst := c6.1.std hi
  refine b_X10_shake_60 c6.1.1 h7.1 hst.1 ⟨by omega, by omega, fun g2 hg2 => ?_⟩
  rw [h7.2.2.1] at hg2
  subst hg2
  have hF6 : ShF i (shR σ i 0) F5 := by
    obtain ⟨f1, f2, f3, f4⟩ := hF5
    refine ⟨f1, f2, f3, ?_⟩
    rw [f4]
    show (if (-1 : Int) < 0 then (-1 : Int) else -1) = (if (-1 : Int) < 0 then -1 else _)
    rw [if_pos (by decide), if_pos (by decide)]
  have hP := hS.2.2.2.2.2.2.1 i hi
  have := c_shk2 (X := X) (k := k) (Q := Q) (q := q) (l := l) hS hi (rms (σ.2.1 i)) 0 F5 A6 R5 vN vN vN vN vN (by have := rms_e hP; omega) c6.1 c6.2.1 hF6 fun F' A' R' z1 z2 => hq F' A' R' (c6.trans z1) z2
  exact this
theorem c_shook {X : Int × (Int → Int)} {k : Nat} {Q : Vv → Fn2 → Fn2 → Fn2 → Prop} {F A R : Fn2} {σ : Sg} {q : Int → Int} {l s w : Int} (hS : SgI σ) (hB : CB σ q l F A R) (hC : CC σ q l F A R) (hI : ShI σ F) (hq : ∀ F' A' R', CG σ q l F A R F' A' R' → ShI σ F' → Q (vI (ansShook σ s w)) F' A' R') : Wp X (k + 10) m_X10_shook [vA 0, vI s, vI w] F A R Q := by
  have no : ¬ ((0 ≤ s ∧ s < 4) ∧ 0 ≤ w ∧ w ≤ 2) → Q (vI (-1)) F A R := by
    intro h
    have := hq F A R (CQ.refl hB hC).g hI
    unfold ansShook at this; rwa [if_neg h] at this
  refine Wp.of [vA 0, vI s, vI w] rfl rfl rfl (b_X10_shook_0 (w_isShelf (k := k + 8) (fun h0 h4 => ?_) (fun h => b_X10_shook_4 ⟨fun _ => no (fun h' => h h'.1), fun h => absurd rfl h⟩)))
  have hi : s.toNat < 4 := by omega
  have es : s = (s.toNat : Int) := by omega
  refine b_X10_shook_4 ⟨fun h => absurd h (by decide), fun _ => ⟨fun h => no (by omega), fun hw0 => ⟨fun hw2 => ?_, fun h => no (by omega)⟩⟩⟩
  -- the answer, once the shake's numbers stand
  have fin : ∀ F' A' R', CG σ q l F A R F' A' R' → ShI σ F' → ShK σ s.toNat F' → G X (k + 9) m_X10_shook Q 31 [vA 0, vI s, vI w] [] F' A' R' := by
    intro F' A' R' c1 i1 k1
    have hv := hq F' A' R' c1 i1
    unfold ansShook at hv
    rw [if_pos (by omega)] at hv
    obtain ⟨f2, f3, f4⟩ := k1
    have hneg := shR_neg (σ := σ) (i := s.toNat) (rms (σ.2.1 s.toNat))
    refine b_X10_shook_31 ?_
    rw [f2, f3, f4]
    by_cases hr : (shR σ s.toNat (rms (σ.2.1 s.toNat))).2.1 < 0
    · rw [if_pos hr] at hv ⊢
      obtain ⟨e1, e2⟩ := hneg hr
      rw [e1, e2]
      exact ⟨fun _ => ⟨fun _ => hv, fun _ => hv⟩, fun _ => hv⟩
    · rw [if_neg hr] at hv ⊢
      refine ⟨fun h2 => ⟨fun h1 => ?_, fun h1 => ?_⟩, fun h2 => ?_⟩
      · rwa [if_neg h1, if_pos (by omega)] at hv
      · rwa [if_pos h1] at hv
      · rwa [if_neg (by omega), if_neg (by omega)] at hv
  refine ⟨fun he => ?_, fun hne => ?_⟩
  · rcases hI with h | ⟨i, i1, i2, i3⟩
    · omega
    · have : i = s.toNat := by omega
      subst this
      exact fin F A R (CQ.refl hB hC).g (Or.inr ⟨s.toNat, i1, i2, i3⟩) i3
  · rw [es]
    refine c_shake (k := k) hS hB hC hi fun F' A' R' y1 y2 => ?_
    rw [← es]
    exact fin F' A' R' y1 (Or.inr ⟨s.toNat, hi, y2.1, y2.2⟩) y2.2
