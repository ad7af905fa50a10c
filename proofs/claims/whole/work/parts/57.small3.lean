/-! sight, untell, fault, gap, about of the class -/
def sightOk (σ : Sg) (a w : Int) : Prop := 1 ≤ a ∧ a ≤ 99 ∧ 0 ≤ w ∧ w ≤ 999 ∧ σ.1 0 6 < 60
def putSight (σ : Sg) (a w : Int) : Sg := (st2 (st2 (st2 (st2 (st2 σ.1 2 (σ.1 0 6) a) 3 (σ.1 0 6) w) 4 (σ.1 0 6) (σ.1 0 7)) 5 (σ.1 0 6) (-1)) 0 6 (σ.1 0 6 + 1), σ.2)
theorem putSight_g {σ : Sg} {a w : Int} : (∀ i, i ≠ 6 → (putSight σ a w).1 0 i = σ.1 0 i) ∧ (putSight σ a w).1 0 6 = σ.1 0 6 + 1 ∧ (putSight σ a w).1 1 = σ.1 1 ∧ (putSight σ a w).1 2 = u1 (σ.1 2) (σ.1 0 6) a ∧ (putSight σ a w).1 3 = u1 (σ.1 3) (σ.1 0 6) w ∧ (putSight σ a w).1 4 = u1 (σ.1 4) (σ.1 0 6) (σ.1 0 7) ∧ (putSight σ a w).1 5 = u1 (σ.1 5) (σ.1 0 6) (-1) ∧ (putSight σ a w).1 6 = σ.1 6 ∧ (putSight σ a w).1 7 = σ.1 7 ∧ (putSight σ a w).1 8 = σ.1 8 := by
  unfold putSight
  refine ⟨fun i hi => ?_, ?_⟩
  · simp only [ne_eq, Int.add_right_inj, Int.reduceEq, not_false_eq_true, st2_n, st2_s, u1_s, u1_u1, u1_n hi]
  · simp only [ne_eq, Int.add_right_inj, Int.reduceEq, not_false_eq_true, st2_n, st2_s, u1_s, u1_u1, and_self]
theorem putSight_S {σ : Sg} {a w : Int} (hS : SgI σ) (h : sightOk σ a w) : SgI (putSight σ a w) := by
  obtain ⟨s1, s2, s3, s4, s5, s6, s7, s8, s9⟩ := hS
  obtain ⟨g0, g6, r1, r2, r3, r4, r5, r6, r7, r8⟩ := putSight_g (σ := σ) (a := a) (w := w)
  unfold sightOk at h
  unfold SgI
  rw [g0 0 (by decide), g0 1 (by decide), g0 2 (by decide), g0 8 (by decide), g0 7 (by decide), g6, r1, r2, r3, r4, r5, r6, r7, r8]
  refine ⟨s1, s2, s3, by omega, s5, s6, s7, s8, fun i a' b' => ?_⟩
  by_cases e : i = σ.1 0 6
  · subst e; simp only [u1_s]; omega
  · rw [u1_n e, u1_n e, u1_n e, u1_n e]; exact s9 i a' (by omega)
theorem c_sight {X : Int × (Int → Int)} {k : Nat} {Q : Vv → Fn2 → Fn2 → Fn2 → Prop} {F A R : Fn2} {σ : Sg} {q : Int → Int} {l a w : Int} (hS : SgI σ) (hB : CB σ q l F A R) (hC : CC σ q l F A R) (hI : ShI σ F) (hq : ∀ F' A', sightOk σ a w → CS (putSight σ a w) q l F A F' A' R → F' 71 2 = 0 → Q (vI (σ.1 0 6)) F' A' R) (hq' : ∀ F', ¬ sightOk σ a w → CS σ q l F A F' A R → (F' 71 2 = 0 ∨ F' = F) → Q (vI (-1)) F' A R) : Wp X (k + 2) m_X10_sight [vA 0, vI a, vI w] F A R Q := by
  have hS' := putSight_S (a := a) (w := w) hS
  obtain ⟨s1, s2, s3, s4, s5, s6, s7, s8, s9⟩ := id hS
  obtain ⟨h1, h2, h3, h4, h5, h6, h7, h8, h9, h10, h11, h12, h13, ⟨h14, h15, h16⟩, ⟨h17, h18, h19⟩, h20, h21⟩ := id hB
  have no : ¬ sightOk σ a w → G X (k + 1) m_X10_sight Q 22 [vA 0, vI a, vI w] [] F A R := fun h => b_X10_sight_22 (hq' F h ⟨hS, hB, hC, hI, fun _ _ => ⟨rfl, rfl⟩⟩ (Or.inr rfl))
  refine Wp.of [vA 0, vI a, vI w] rfl rfl rfl (b_X10_sight_0 h1 ⟨fun h => no (by unfold sightOk; omega), fun q0 => ⟨fun h => no (by unfold sightOk; omega), fun q1 => ⟨fun h => no (by unfold sightOk; omega), fun q2 => ⟨fun q3 => ?_, fun h => no (by unfold sightOk; omega)⟩⟩⟩⟩)
  refine Wp.of (k := k) [vA 71] rfl rfl rfl (b_X0_forget_0 fun F1 hF1 => b_X10_sight_31 h1 ?_)
  have x1 : ∀ a f, a ≠ 71 ∨ f ≠ 2 → F1 a f = F a f := fun a f hx => by
    rw [hF1]
    by_cases e : a = 71
    · subst e; rw [st2_s, u1_n (by omega)]
    · rw [st2_n e]
  have e71 : F1 71 2 = 0 := by rw [hF1, st2_s, u1_s]
  refine Wp.of (k := k) [vA 66, vI a, vI w] rfl rfl rfl (b_X6_tell_0 h1 ?_)
  rw [x1 66 1 (by omega), x1 66 0 (by omega), h15, h14]
  refine ⟨fun hlt => ⟨by omega, by omega, fun A1 hA1 A2 hA2 A3 hA3 A4 hA4 => ⟨by omega, fun F5 hF5 => ?_⟩⟩, fun hge => b_X10_sight_40 ?_⟩
  · have hok : sightOk σ a w := by unfold sightOk; omega
    have hF' : ∀ a f, a ≠ 71 ∨ f ≠ 2 → a ≠ 66 ∨ f ≠ 1 → F5 a f = F a f := fun a f hx hy => by
      rw [hF5]
      by_cases e : a = 66
      · subst e; rw [st2_s, u1_n (by omega), x1 _ _ (by omega)]
      · rw [st2_n e, x1 _ _ hx]
    have hA' : ∀ z, z < 67 ∨ 70 < z → A4 z = A z := fun z hz => by rw [hA4, hA3, hA2, hA1, st2_n (by omega), st2_n (by omega), st2_n (by omega), st2_n (by omega)]
    have e66 : F5 66 1 = σ.1 0 6 + 1 := by rw [hF5, st2_s, u1_s]
    rw [e66]
    refine ⟨by omega, b_X10_sight_40 ?_⟩
    rw [show σ.1 0 6 + 1 - 1 = σ.1 0 6 by omega]
    obtain ⟨g0, g6, r1, r2, r3, r4, r5, r6, r7, r8⟩ := putSight_g (σ := σ) (a := a) (w := w)
    refine hq F5 A4 hok ?_ (by rw [hF5, st2_n (by decide)]; exact e71)
    refine cs_upd (hS' hok) hB rfl (hC.f rfl (g0 _ (by decide)) (fun a f a1 a2 => hF' a f (by omega) (by omega)) (fun z z1 z2 => hA' z (by omega))) (hI.of (fun f h1 h2 => hF' _ _ (by omega) (by omega)) rfl (g0 _ (by decide)) (g0 _ (by decide)) (g0 _ (by decide)) r6 r7 r8) (fun a f h => hF' a f (by unfold inQ at h; omega) (by unfold inQ at h; omega)) (fun z hz => ?_) (hA' 188 (by omega)) (fun z hz => ⟨hA' z (by omega), funext fun f => hF' z f (by omega) (by omega)⟩) ?_ ?_ (g0 _ (by decide)) ?_ ?_ ?_ ?_ ?_ ?_
    · by_cases e : 67 ≤ z ∧ z ≤ 70
      · exact Or.inr (Or.inl e)
      · exact Or.inr (Or.inr (Or.inr (hA' z (by omega))))
    · rw [g0 _ (by decide), hF' _ _ (by omega) (by omega)]; exact h8
    · rw [g0 _ (by decide), r1, hA' _ (by omega)]; exact h9
    · rw [g0 _ (by decide), hF' _ _ (by omega) (by omega)]; exact h12
    · rw [g0 _ (by decide), hF' _ _ (by omega) (by omega)]; exact h13
    · rw [g0 _ (by decide), g6, r2, r3, r4, r5, hF' _ _ (by omega) (by omega), e66]
      refine ⟨h14, rfl, fun i i0 i1 => ?_⟩
      rw [hA4, hA3, hA2, hA1]
      simp only [ne_eq, Int.add_right_inj, Int.reduceEq, not_false_eq_true, st2_n, st2_s, u1_s, u1_u1]
      by_cases e : i = σ.1 0 6
      · subst e; simp only [u1_s, and_self]
      · rw [u1_n e, u1_n e, u1_n e, u1_n e, u1_n e, u1_n e, u1_n e, u1_n e]; exact h16 i i0 (by omega)
    · rw [g0 _ (by decide), r6, r7, r8, hF' _ _ (by omega) (by omega), hA' 185 (by omega), hA' 186 (by omega), hA' 187 (by omega)]
      exact ⟨h17, h18⟩
    · rw [g0 _ (by decide), hF' _ _ (by omega) (by omega)]; exact h20
    · rw [g0 _ (by decide), hF' _ _ (by omega) (by omega)]; exact h21
  · refine hq' F1 (by unfold sightOk; omega) ?_ (Or.inl e71)
    refine cs_upd hS hB rfl (hC.f rfl rfl (fun a f a1 a2 => x1 a f (by omega)) (fun _ _ _ => rfl)) (hI.of (fun f h1 h2 => x1 _ _ (by omega)) rfl rfl rfl rfl rfl rfl rfl) (fun a f h => x1 a f (by unfold inQ at h; omega)) (fun _ _ => Or.inr (Or.inr (Or.inr rfl))) rfl (fun z hz => ⟨rfl, funext fun f => x1 z f (by omega)⟩) ?_ h9 rfl ?_ ?_ ?_ ?_ ?_ ?_
    · rw [x1 _ _ (by omega)]; exact h8
    · rw [x1 _ _ (by omega)]; exact h12
    · rw [x1 _ _ (by omega)]; exact h13
    · rw [x1 _ _ (by omega), x1 _ _ (by omega)]; exact ⟨h14, h15, h16⟩
    · rw [x1 _ _ (by omega)]; exact ⟨h17, h18⟩
    · rw [x1 _ _ (by omega)]; exact h20
    · rw [x1 _ _ (by omega)]; exact h21
def untellOk (σ : Sg) (i : Int) : Prop := 0 ≤ i ∧ i < σ.1 0 6 ∧ σ.1 5 i = -1
def putUn (σ : Sg) (i : Int) : Sg := (st2 σ.1 5 i (σ.1 0 7), σ.2)
theorem putUn_S {σ : Sg} {i : Int} (hS : SgI σ) : SgI (putUn σ i) := by
  obtain ⟨s1, s2, s3, s4, s5, s6, s7, s8, s9⟩ := hS
  unfold putUn SgI
  simp only [ne_eq, Int.add_right_inj, Int.reduceEq, not_false_eq_true, st2_n, st2_s, u1_s, u1_u1]
  refine ⟨s1, s2, s3, s4, s5, s6, s7, s8, fun j a b => ?_⟩
  have h := s9 j a b
  by_cases e : j = i
  · subst e; rw [u1_s]; omega
  · rw [u1_n e]; exact h
theorem c_untell {X : Int × (Int → Int)} {k : Nat} {Q : Vv → Fn2 → Fn2 → Fn2 → Prop} {F A R : Fn2} {σ : Sg} {q : Int → Int} {l i : Int} (hS : SgI σ) (hB : CB σ q l F A R) (hC : CC σ q l F A R) (hI : ShI σ F) (hq : ∀ F' A', untellOk σ i → CS (putUn σ i) q l F A F' A' R → F' 71 2 = 0 → Q (vI 1) F' A' R) (hq' : ∀ F', ¬ untellOk σ i → CS σ q l F A F' A R → F' 71 2 = 0 → Q (vI 0) F' A R) : Wp X (k + 2) m_X10_untell [vA 0, vI i] F A R Q := by
  have hS' := putUn_S (i := i) hS
  obtain ⟨s1, s2, s3, s4, s5, s6, s7, s8, s9⟩ := id hS
  obtain ⟨h1, h2, h3, h4, h5, h6, h7, h8, h9, h10, h11, h12, h13, ⟨h14, h15, h16⟩, ⟨h17, h18, h19⟩, h20, h21⟩ := id hB
  refine Wp.of [vA 0, vI i] rfl rfl rfl (b_X10_untell_0 h1 ?_)
  refine Wp.of (k := k) [vA 71] rfl rfl rfl (b_X0_forget_0 fun F1 hF1 => b_X10_untell_7 h1 ?_)
  have x1 : ∀ a f, a ≠ 71 ∨ f ≠ 2 → F1 a f = F a f := fun a f hx => by
    rw [hF1]
    by_cases e : a = 71
    · subst e; rw [st2_s, u1_n (by omega)]
    · rw [st2_n e]
  have e71 : F1 71 2 = 0 := by rw [hF1, st2_s, u1_s]
  have no : ¬ untellOk σ i → G X (k + 1) m_X10_untell Q 15 [vA 0, vI i] [vI 0] F1 A R := fun h => b_X10_untell_15 ⟨by omega, by omega, hq' F1 h (by
    refine cs_upd hS hB rfl (hC.f rfl rfl (fun a f a1 a2 => x1 a f (by omega)) (fun _ _ _ => rfl)) (hI.of (fun f h1 h2 => x1 _ _ (by omega)) rfl rfl rfl rfl rfl rfl rfl) (fun a f h => x1 a f (by unfold inQ at h; omega)) (fun _ _ => Or.inr (Or.inr (Or.inr rfl))) rfl (fun z hz => ⟨rfl, funext fun f => x1 z f (by omega)⟩) ?_ h9 rfl ?_ ?_ ?_ ?_ ?_ ?_
    · rw [x1 _ _ (by omega)]; exact h8
    · rw [x1 _ _ (by omega)]; exact h12
    · rw [x1 _ _ (by omega)]; exact h13
    · rw [x1 _ _ (by omega), x1 _ _ (by omega)]; exact ⟨h14, h15, h16⟩
    · rw [x1 _ _ (by omega)]; exact ⟨h17, h18⟩
    · rw [x1 _ _ (by omega)]; exact h20
    · rw [x1 _ _ (by omega)]; exact h21) e71⟩
  refine Wp.of (k := k) [vA 66, vI i] rfl rfl rfl (b_X6_takeBack_0 h1 ?_)
  rw [x1 66 1 (by omega), x1 66 0 (by omega), h15, h14]
  refine ⟨fun h => no (by unfold untellOk; omega), fun q0 => ⟨fun h => no (by unfold untellOk; omega), fun q1 => ⟨by omega, by omega, ?_⟩⟩⟩
  rw [(h16 i (by omega) q1).2.2.2]
  refine ⟨fun he A1 hA1 => b_X10_untell_15 ⟨by omega, by omega, ?_⟩, fun he => no (by unfold untellOk; omega)⟩
  have hA' : ∀ z, z ≠ 70 → A1 z = A z := fun z hz => by rw [hA1, st2_n hz]
  refine hq F1 A1 (by unfold untellOk; omega) ?_ e71
  refine cs_upd hS' hB rfl (hC.f rfl (by unfold putUn; simp only [ne_eq, Int.add_right_inj, Int.reduceEq, not_false_eq_true, st2_n, st2_s, u1_s, u1_u1]) (fun a f a1 a2 => x1 a f (by omega)) (fun z z1 z2 => hA' z (by omega))) (hI.of (fun f h1 h2 => x1 _ _ (by omega)) rfl (by unfold putUn; simp only [ne_eq, Int.add_right_inj, Int.reduceEq, not_false_eq_true, st2_n, st2_s, u1_s, u1_u1]) (by unfold putUn; simp only [ne_eq, Int.add_right_inj, Int.reduceEq, not_false_eq_true, st2_n, st2_s, u1_s, u1_u1]) (by unfold putUn; simp only [ne_eq, Int.add_right_inj, Int.reduceEq, not_false_eq_true, st2_n, st2_s, u1_s, u1_u1]) (by unfold putUn; simp only [ne_eq, Int.add_right_inj, Int.reduceEq, not_false_eq_true, st2_n, st2_s, u1_s, u1_u1]) (by unfold putUn; simp only [ne_eq, Int.add_right_inj, Int.reduceEq, not_false_eq_true, st2_n, st2_s, u1_s, u1_u1]) (by unfold putUn; simp only [ne_eq, Int.add_right_inj, Int.reduceEq, not_false_eq_true, st2_n, st2_s, u1_s, u1_u1])) (fun a f h => x1 a f (by unfold inQ at h; omega)) (fun z hz => ?_) (hA' 188 (by omega)) (fun z hz => ⟨hA' z (by omega), funext fun f => x1 z f (by omega)⟩) ?_ ?_ ?_ ?_ ?_ ?_ ?_ ?_ ?_
  · by_cases e : z = 70
    · exact Or.inr (Or.inl (by omega))
    · exact Or.inr (Or.inr (Or.inr (hA' z e)))
  all_goals (unfold putUn; simp only [ne_eq, Int.add_right_inj, Int.reduceEq, not_false_eq_true, st2_n, st2_s, u1_s, u1_u1])
  · rw [x1 _ _ (by omega)]; exact h8
  · rw [hA' _ (by omega)]; exact h9
  · rw [x1 _ _ (by omega)]; exact h12
  · rw [x1 _ _ (by omega)]; exact h13
  · rw [x1 _ _ (by omega), x1 _ _ (by omega), hA' 67 (by omega), hA' 68 (by omega), hA' 69 (by omega)]
    refine ⟨h14, h15, fun j a b => ?_⟩
    have h := h16 j a b
    refine ⟨h.1, h.2.1, h.2.2.1, ?_⟩
    rw [hA1, st2_s]
    by_cases e : j = i
    · subst e; rw [u1_s, u1_s]
    · rw [u1_n e, u1_n e]; exact h.2.2.2
  · rw [x1 _ _ (by omega), hA' 185 (by omega), hA' 186 (by omega), hA' 187 (by omega)]; exact ⟨h17, h18⟩
  · rw [x1 _ _ (by omega)]; exact h20
  · rw [x1 _ _ (by omega)]; exact h21
def ansFault (σ : Sg) (w : Int) : Int := if w = 0 then σ.1 0 3 else if w = 1 then σ.1 0 4 else -1
theorem c_fault {X : Int × (Int → Int)} {k : Nat} {Q : Vv → Fn2 → Fn2 → Fn2 → Prop} {F A R : Fn2} {σ : Sg} {q : Int → Int} {l w : Int} (hB : CB σ q l F A R) (hq : Q (vI (ansFault σ w)) F A R) : Wp X (k + 1) m_X10_fault [vA 0, vI w] F A R Q := by
  obtain ⟨h1, h2, h3, h4, h5, h6, h7, h8, h9, h10, h11, h12, h13, h14, h17, h20, h21⟩ := hB
  refine Wp.of [vA 0, vI w] rfl rfl rfl (b_X10_fault_0 h1 ?_)
  rw [h20, h21]
  unfold ansFault at hq
  refine ⟨fun h => ⟨fun h2 => ?_, fun h2 => ?_⟩, fun h => ?_⟩
  · rwa [if_neg h, if_neg h2] at hq
  · rwa [if_neg h, if_pos h2] at hq
  · rwa [if_pos h] at hq
def gpF (g a b c d k : Int) : Prop := (k + 1) * a + k * c ≤ g ∧ g ≤ (k + 1) * b + k * d
abbrev gpD (g a b c d k : Int) : Prop := (k + 1) * a + k * c ≤ g ∧ g ≤ (k + 1) * b + k * d
def gpN (g a b c d w : Int) : Nat → Int
  | 0 => -1
  | n + 1 => if gpD g a b c d n ∧ (w = 1 ∨ gpN g a b c d w n = -1) then n else gpN g a b c d w n
def gpOk (g a b c d w : Int) : Prop := (0 ≤ g ∧ g ≤ 2000) ∧ (1 ≤ a ∧ a ≤ b ∧ b ≤ 999) ∧ (1 ≤ c ∧ c ≤ d ∧ d ≤ 999) ∧ 0 ≤ w ∧ w ≤ 1
abbrev gpOk' (g a b c d w : Int) : Prop := (0 ≤ g ∧ g ≤ 2000) ∧ (1 ≤ a ∧ a ≤ b ∧ b ≤ 999) ∧ (1 ≤ c ∧ c ≤ d ∧ d ≤ 999) ∧ 0 ≤ w ∧ w ≤ 1
def ansGap (g a b c d w : Int) : Int := if gpOk' g a b c d w then gpN g a b c d w (g + 1).toNat else -1
theorem gpN_b {g a b c d w : Int} : ∀ n, -1 ≤ gpN g a b c d w n ∧ gpN g a b c d w n < n
  | 0 => ⟨Int.le_refl _, by show (-1 : Int) < 0; decide⟩
  | n + 1 => by
    have := gpN_b (g := g) (a := a) (b := b) (c := c) (d := d) (w := w) n
    unfold gpN
    split <;> omega
theorem gp_mul {k a : Int} (h0 : 0 ≤ k) (h1 : k ≤ 2001) (a0 : 1 ≤ a) (a1 : a ≤ 999) : 0 ≤ k * a ∧ k * a ≤ 2001 * 999 := mul_b h0 h1 (by omega) a1
theorem c_stretch {X : Int × (Int → Int)} {k : Nat} {Q : Vv → Fn2 → Fn2 → Fn2 → Prop} {F A R : Fn2} {a b : Int} (hq : 1 ≤ a ∧ a ≤ b ∧ b ≤ 999 → Q (vI 1) F A R) (hq' : ¬ (1 ≤ a ∧ a ≤ b ∧ b ≤ 999) → Q (vI 0) F A R) : Wp X (k + 1) m_X10_isStretch [vI a, vI b] F A R Q :=
  Wp.of [vI a, vI b] rfl rfl rfl (b_X10_isStretch_0 ⟨fun h => hq' (by omega), fun h => ⟨fun h2 => hq' (by omega), fun h2 => ⟨fun h3 => hq' (by omega), fun h3 => hq (by omega)⟩⟩⟩)
theorem c_gapL {X : Int × (Int → Int)} {k : Nat} {Q : Vv → Fn2 → Fn2 → Fn2 → Prop} {R : Fn2} {g a b c d w : Int} {F A : Fn2} (h : gpOk' g a b c d w) (hq : Q (vI (gpN g a b c d w (g + 1).toNat)) F A R) : ∀ (m n : Nat) (w9 : Vv), (n : Int) + m = g + 1 → G X k m_X10_gap Q 48 [vA 0, vI g, vI a, vI b, vI c, vI d, vI w, vI (gpN g a b c d w n), vI n, w9] [] F A R
  | 0, n, w9, hm => by
    have e : n = (g + 1).toNat := by omega
    subst e
    exact b_X10_gap_48 ⟨fun _ => hq, fun h => absurd h (by omega)⟩
  | m + 1, n, w9, hm => by
    have m1 := gp_mul (k := (n : Int) + 1) (a := a) (by omega) (by omega) (by omega) (by omega)
    have m2 := gp_mul (k := (n : Int)) (a := c) (by omega) (by omega) (by omega) (by omega)
    have m3 := gp_mul (k := (n : Int) + 1) (a := b) (by omega) (by omega) (by omega) (by omega)
    have m4 := gp_mul (k := (n : Int)) (a := d) (by omega) (by omega) (by omega) (by omega)
    have hb := gpN_b (g := g) (a := a) (b := b) (c := c) (d := d) (w := w) n
    have unf : gpN g a b c d w (n + 1) = if gpD g a b c d n ∧ (w = 1 ∨ gpN g a b c d w n = -1) then (n : Int) else gpN g a b c d w n := rfl
    have nx : ∀ v w9, v = gpN g a b c d w (n + 1) → G X k m_X10_gap Q 48 [vA 0, vI g, vI a, vI b, vI c, vI d, vI w, vI v, vI ((n : Int) + 1), w9] [] F A R := by
      intro v w9 hv
      rw [hv]
      exact c_gapL (X := X) (k := k) h hq m (n + 1) w9 (by omega)
    refine b_X10_gap_48 ⟨fun h => by omega, fun _ => ⟨by omega, by omega, by omega, by omega, fun h1 => nx _ _ ?_, fun h1 => ⟨by omega, by omega, by omega, fun h2 => nx _ _ ?_, fun h2 => ⟨fun h3 => nx _ _ ?_, fun h3 => ⟨fun h4 => nx _ _ ?_, fun h4 => nx _ _ ?_⟩⟩⟩⟩⟩
    · rw [unf, if_neg (fun h => by have := h.1.1; omega)]
    · rw [unf, if_neg (fun h => by have := h.1.2; omega)]
    · rw [unf, if_pos ⟨⟨by omega, by omega⟩, Or.inl h3⟩]
    · rw [unf, if_neg (fun h => by rcases h.2 with h | h; exact h3 h; exact h4 h)]
    · rw [unf, if_pos ⟨⟨by omega, by omega⟩, Or.inr h4⟩]
theorem c_gap {X : Int × (Int → Int)} {k : Nat} {Q : Vv → Fn2 → Fn2 → Fn2 → Prop} {F A R : Fn2} {g a b c d w : Int} (hq : Q (vI (ansGap g a b c d w)) F A R) : Wp X (k + 2) m_X10_gap [vA 0, vI g, vI a, vI b, vI c, vI d, vI w] F A R Q := by
  unfold ansGap at hq
  have no : ¬ gpOk' g a b c d w → Q (vI (-1)) F A R := fun h => by rwa [if_neg h] at hq
  refine Wp.of [vA 0, vI g, vI a, vI b, vI c, vI d, vI w, vN, vN, vN] rfl rfl rfl (b_X10_gap_0 ⟨fun h => b_X10_gap_40 (no (by omega)), fun q0 => ⟨fun h => b_X10_gap_40 (no (by omega)), fun q1 => c_stretch (k := k) (fun q2 => ?_) (fun h => b_X10_gap_16 ⟨fun _ => b_X10_gap_40 (no (by omega)), fun h => absurd rfl h⟩)⟩⟩)
  refine b_X10_gap_16 ⟨fun h => absurd h (by decide), fun _ => c_stretch (k := k) (fun q3 => ?_) (fun h => b_X10_gap_26 ⟨fun _ => b_X10_gap_40 (no (by omega)), fun h => absurd rfl h⟩)⟩
  refine b_X10_gap_26 ⟨fun h => absurd h (by decide), fun _ => ⟨fun h => b_X10_gap_40 (no (by omega)), fun q4 => ⟨fun q5 => ?_, fun h => b_X10_gap_40 (no (by omega))⟩⟩⟩
  have hok : gpOk' g a b c d w := by omega
  rw [if_pos hok] at hq
  exact c_gapL (X := X) (k := k + 1) hok hq (g + 1).toNat 0 vN (by omega)
def ansAbout (σ : Sg) (w : Int) : Int := if 0 ≤ w ∧ w < 4 then σ.2.1 w.toNat 0 0 else if 4 ≤ w ∧ w < 8 then σ.2.1 (w - 4).toNat 0 1 else if w = 8 then σ.1 0 5 else if w = 9 then σ.1 0 6 else if w = 10 then σ.1 0 8 else if w = 11 then σ.1 0 7 else if w = 12 then σ.1 0 0 else -1
theorem c_about {X : Int × (Int → Int)} {k : Nat} {Q : Vv → Fn2 → Fn2 → Fn2 → Prop} {F A R : Fn2} {σ : Sg} {q : Int → Int} {l w : Int} (hB : CB σ q l F A R) (hq : Q (vI (ansAbout σ w)) F A R) : Wp X (k + 1) m_X10_about [vA 0, vI w] F A R Q := by
  obtain ⟨h1, h2, h3, h4, h5, h6, h7, h8, h9, h10, h11, h12, h13, ⟨h14, h15, h16⟩, ⟨h17, h18, h19⟩, h20, h21⟩ := hB
  unfold ansAbout at hq
  have big : ¬ (0 ≤ w ∧ w < 4) → ¬ (4 ≤ w ∧ w < 8) → G X k m_X10_about Q 48 [vA 0, vI w] [] F A R := by
    intro n1 n2
    rw [if_neg n1, if_neg n2] at hq
    refine b_X10_about_48 h1 h5 (lawD_at h3) ?_
    rw [h11, h15, h17, h14, h8]
    refine ⟨fun e => ?_, fun e8 => ⟨fun e => ?_, fun e9 => ⟨fun e => ?_, fun e10 => ⟨fun e => ?_, fun e11 => ⟨fun e => ?_, fun e12 => ?_⟩⟩⟩⟩⟩
    · rwa [if_pos e] at hq
    · rwa [if_neg e8, if_pos e] at hq
    · rwa [if_neg e8, if_neg e9, if_pos e] at hq
    · rwa [if_neg e8, if_neg e9, if_neg e10, if_pos e] at hq
    · rwa [if_neg e8, if_neg e9, if_neg e10, if_neg e11, if_pos e] at hq
    · rwa [if_neg e8, if_neg e9, if_neg e10, if_neg e11, if_neg e12] at hq
  have two : 4 ≤ w → w < 8 → Q (vI (F (R (189 + 46 * (w - 4)) 0) 1)) F A R := by
    intro a b
    rw [if_neg (by omega), if_pos ⟨a, b⟩] at hq
    have h := h7 (w - 4).toNat (by omega)
    rw [show (189 : Int) + 46 * (w - 4) = 189 + 46 * ((w - 4).toNat : Int) by omega, h.1, h.2.2.2]
    exact hq
  refine Wp.of [vA 0, vI w] rfl rfl rfl (b_about h1 rfl (fun a b => ?_) rfl (fun a b => ?_) ⟨fun a => ⟨fun b => big (by omega) (by omega), fun b => by omega⟩, fun a => ⟨fun b => ⟨fun c => by omega, fun c => ⟨fun d => big (by omega) (by omega), fun d => ⟨by omega, by omega, by omega, two (by omega) d⟩⟩⟩, fun b => ⟨by omega, by omega, ?_⟩⟩⟩)
  · have h := h7 (w - 4).toNat (by omega)
    rw [show (189 : Int) + 46 * (w - 4) = 189 + 46 * ((w - 4).toNat : Int) by omega, h.1]
    exact inQ_at (h2.1 _ (by omega) (by omega))
  · have h := h7 w.toNat (by omega)
    rw [show (189 : Int) + 46 * w = 189 + 46 * (w.toNat : Int) by omega, h.1]
    exact inQ_at (h2.1 _ (by omega) (by omega))
  · rw [if_pos (by omega)] at hq
    have h := h7 w.toNat (by omega)
    rw [show (189 : Int) + 46 * w = 189 + 46 * (w.toNat : Int) by omega, h.1, h.2.2.1]
    exact hq
