/-! THE SMALL CALLS of the reference -/
theorem xs_upd {σ σ' : Sg} {b : Int → Int} {F A F' A' : Fn2} (h : XI σ b F A) (e2 : σ'.2 = σ.2) (hA : ∀ a, 376 ≤ a ∧ a ≤ 388 ∨ 390 ≤ a ∧ a ≤ 393 ∨ a = 397 → A' a = A a) (h25 : F' 373 25 = F 373 25)
    (k1 : F' 373 2 = σ'.1 0 0) (k2 : ∀ k, 0 ≤ k → k < σ'.1 0 0 → A' 374 k = bi2b (σ'.1 1 k)) (k3 : F' 373 35 = σ'.1 0 5) (k4 : F' 373 55 = σ'.1 0 1) (k5 : F' 373 56 = σ'.1 0 2)
    (k6 : F' 373 73 = σ'.1 0 7 ∧ F' 373 72 = σ'.1 0 6 ∧ ∀ i, 0 ≤ i → i < σ'.1 0 6 → A' 408 i = σ'.1 2 i ∧ A' 409 i = σ'.1 3 i ∧ A' 410 i = σ'.1 4 i ∧ A' 411 i = σ'.1 5 i)
    (k7 : F' 373 78 = σ'.1 0 8 ∧ ∀ i, 0 ≤ i → i < σ'.1 0 8 → A' 417 i = σ'.1 6 i ∧ A' 418 i = σ'.1 7 i ∧ A' 419 i = σ'.1 8 i) (k8 : F' 373 4 = σ'.1 0 3) (k9 : F' 373 5 = σ'.1 0 4) : XI σ' b F' A' := by
  obtain ⟨h1, h2, h3, h4, h5, h6, ⟨c1, c2, c3⟩, h8⟩ := h
  have z : ∀ i c, XL1 A i c → XL1 A' i c := fun i c hc => hc.of (hA _ (by omega)) (hA _ (by omega)) (hA _ (by omega)) (hA _ (by omega)) (hA _ (by omega))
  have e : ∀ b, RPm b A' = RPm b A := fun b => RPm_st fun a h1 h2 => hA a (by omega)
  refine ⟨h1, h2, fun i hi => ?_, by rw [h25]; exact h4, k1, k2, ?_, k3, k4, k5, k6, k7, k8, k9⟩
  · rw [e, hA 376 (by omega), e2]; exact h3 i hi
  · rw [e2]; exact ⟨z _ _ c1, z _ _ c2, z _ _ c3⟩
/-- below 373 nothing changes -/
def LO (F A F' A' : Fn2) : Prop := ∀ a, a < 373 → A' a = A a ∧ F' a = F a
theorem st373 {F F' : Fn2} {i v : Int} (h : F' = st2 F 373 i v) : ∀ a f, a ≠ 373 ∨ f ≠ i → F' a f = F a f := fun a f hx => by
  rw [h]
  by_cases e : a = 373
  · subst e; rw [st2_s, u1_n (by omega)]
  · rw [st2_n e]
theorem r_end {X : Int × (Int → Int)} {k : Nat} {Q : Vv → Fn2 → Fn2 → Fn2 → Prop} {F A R : Fn2} {σ : Sg} {b : Int → Int} {n : Int} (hX : XI σ b F A) (hq : ∀ F', (0 ≤ n ∧ n ≤ σ.1 0 0 → XI (put0 σ 0 n) b F' A) → (¬ (0 ≤ n ∧ n ≤ σ.1 0 0) → F' = F) → LO F A F' A → Q (vI (if 0 ≤ n ∧ n ≤ σ.1 0 0 then n else -1)) F' A R) : Wp X (k + 1) m_X11_end [vA 373, vI n] F A R Q := by
  obtain ⟨h1, h2, h3, h4, h5, h6, h7, h8, h9, h10, h11, h12, h13, h14⟩ := id hX
  refine Wp.of [vA 373, vI n] rfl rfl rfl (b_X11_end_0 ?_)
  rw [h5]
  have no : ¬ (0 ≤ n ∧ n ≤ σ.1 0 0) → Q (vI (-1)) F A R := fun h => by
    have := hq F (fun h' => absurd h' h) (fun _ => rfl) (fun _ _ => ⟨rfl, rfl⟩)
    rwa [if_neg h] at this
  refine ⟨fun h => no (by omega), fun h0 => ⟨fun h1' F1 hF1 => ?_, fun h => no (by omega)⟩⟩
  have hy : 0 ≤ n ∧ n ≤ σ.1 0 0 := by omega
  have x := st373 hF1
  have := hq F1 (fun _ => ?_) (fun h => absurd hy h) (fun a ha => ⟨rfl, funext fun f => x a f (by omega)⟩)
  · rwa [if_pos hy] at this
  · refine xs_upd hX rfl (fun _ _ => rfl) (x _ _ (by omega)) ?_ ?_ ?_ ?_ ?_ ?_ ?_ ?_ ?_
    all_goals (simp only [put0, ne_eq, Int.add_right_inj, Int.reduceEq, not_false_eq_true, st2_n, st2_s, u1_s, u1_n, u1_u1])
    · rw [hF1, st2_s, u1_s]
    · exact fun k a b => h6 k a (by omega)
    · rw [x _ _ (by omega)]; exact h8
    · rw [x _ _ (by omega)]; exact h9
    · rw [x _ _ (by omega)]; exact h10
    · rw [x _ _ (by omega), x _ _ (by omega)]; exact h11
    · rw [x _ _ (by omega)]; exact h12
    · rw [x _ _ (by omega)]; exact h13
    · rw [x _ _ (by omega)]; exact h14
theorem r_cold {X : Int × (Int → Int)} {k : Nat} {Q : Vv → Fn2 → Fn2 → Fn2 → Prop} {F A R : Fn2} {σ : Sg} {b : Int → Int} {n : Int} (hX : XI σ b F A) (hq : ∀ F', (0 ≤ n ∧ n ≤ 99 → XI (put0 σ 1 n) b F' A) → (¬ (0 ≤ n ∧ n ≤ 99) → F' = F) → LO F A F' A → Q (vI (if 0 ≤ n ∧ n ≤ 99 then 1 else 0)) F' A R) : Wp X (k + 1) m_X11_cold [vA 373, vI n] F A R Q := by
  obtain ⟨h1, h2, h3, h4, h5, h6, h7, h8, h9, h10, h11, h12, h13, h14⟩ := id hX
  have no : ¬ (0 ≤ n ∧ n ≤ 99) → Q (vI 0) F A R := fun h => by
    have := hq F (fun h' => absurd h' h) (fun _ => rfl) (fun _ _ => ⟨rfl, rfl⟩)
    rwa [if_neg h] at this
  refine Wp.of [vA 373, vI n] rfl rfl rfl (b_X11_cold_0 ⟨fun h => no (by omega), fun h0 => ⟨fun h1' F1 hF1 => ?_, fun h => no (by omega)⟩⟩)
  have hy : 0 ≤ n ∧ n ≤ 99 := by omega
  have x := st373 hF1
  have := hq F1 (fun _ => ?_) (fun h => absurd hy h) (fun a ha => ⟨rfl, funext fun f => x a f (by omega)⟩)
  · rwa [if_pos hy] at this
  · refine xs_upd hX rfl (fun _ _ => rfl) (x _ _ (by omega)) ?_ ?_ ?_ ?_ ?_ ?_ ?_ ?_ ?_
    all_goals (simp only [put0, ne_eq, Int.add_right_inj, Int.reduceEq, not_false_eq_true, st2_n, st2_s, u1_s, u1_n, u1_u1])
    · rw [x _ _ (by omega)]; exact h5
    · exact h6
    · rw [x _ _ (by omega)]; exact h8
    · rw [hF1, st2_s, u1_s]
    · rw [x _ _ (by omega)]; exact h10
    · rw [x _ _ (by omega), x _ _ (by omega)]; exact h11
    · rw [x _ _ (by omega)]; exact h12
    · rw [x _ _ (by omega)]; exact h13
    · rw [x _ _ (by omega)]; exact h14
theorem r_high {X : Int × (Int → Int)} {k : Nat} {Q : Vv → Fn2 → Fn2 → Fn2 → Prop} {F A R : Fn2} {σ : Sg} {b : Int → Int} {n : Int} (hX : XI σ b F A) (hq : ∀ F', (1 ≤ n ∧ n ≤ 99 → XI (put0 σ 2 n) b F' A) → (¬ (1 ≤ n ∧ n ≤ 99) → F' = F) → LO F A F' A → Q (vI (if 1 ≤ n ∧ n ≤ 99 then 1 else 0)) F' A R) : Wp X (k + 1) m_X11_high [vA 373, vI n] F A R Q := by
  obtain ⟨h1, h2, h3, h4, h5, h6, h7, h8, h9, h10, h11, h12, h13, h14⟩ := id hX
  have no : ¬ (1 ≤ n ∧ n ≤ 99) → Q (vI 0) F A R := fun h => by
    have := hq F (fun h' => absurd h' h) (fun _ => rfl) (fun _ _ => ⟨rfl, rfl⟩)
    rwa [if_neg h] at this
  refine Wp.of [vA 373, vI n] rfl rfl rfl (b_X11_high_0 ⟨fun h => no (by omega), fun h0 => ⟨fun h1' F1 hF1 => ?_, fun h => no (by omega)⟩⟩)
  have hy : 1 ≤ n ∧ n ≤ 99 := by omega
  have x := st373 hF1
  have := hq F1 (fun _ => ?_) (fun h => absurd hy h) (fun a ha => ⟨rfl, funext fun f => x a f (by omega)⟩)
  · rwa [if_pos hy] at this
  · refine xs_upd hX rfl (fun _ _ => rfl) (x _ _ (by omega)) ?_ ?_ ?_ ?_ ?_ ?_ ?_ ?_ ?_
    all_goals (simp only [put0, ne_eq, Int.add_right_inj, Int.reduceEq, not_false_eq_true, st2_n, st2_s, u1_s, u1_n, u1_u1])
    · rw [x _ _ (by omega)]; exact h5
    · exact h6
    · rw [x _ _ (by omega)]; exact h8
    · rw [x _ _ (by omega)]; exact h9
    · rw [hF1, st2_s, u1_s]
    · rw [x _ _ (by omega), x _ _ (by omega)]; exact h11
    · rw [x _ _ (by omega)]; exact h12
    · rw [x _ _ (by omega)]; exact h13
    · rw [x _ _ (by omega)]; exact h14
theorem r_later {X : Int × (Int → Int)} {k : Nat} {Q : Vv → Fn2 → Fn2 → Fn2 → Prop} {F A R : Fn2} {σ : Sg} {b : Int → Int} {n : Int} (hS : SgI σ) (hX : XI σ b F A) (hq : ∀ F', laterOk σ n → XI (put0 σ 7 (σ.1 0 7 + n)) b F' A → LO F A F' A → Q (vI (σ.1 0 7 + n)) F' A R) (hq' : ¬ laterOk σ n → Q (vI (-1)) F A R) : Wp X (k + 1) m_X11_later [vA 373, vI n] F A R Q := by
  obtain ⟨h1, h2, h3, h4, h5, h6, h7, h8, h9, h10, ⟨h11, h11b, h11c⟩, h12, h13, h14⟩ := id hX
  have s5 := hS.2.2.2.2.1
  refine Wp.of [vA 373, vI n] rfl rfl rfl (b_X11_later_0 ?_)
  rw [h11]
  unfold laterOk at hq hq'
  refine ⟨fun h => hq' (by omega), fun h0 => ⟨fun h => hq' (by omega), fun h1' => ⟨by omega, fun h2' F1 hF1 => ?_, fun h => hq' (by omega)⟩⟩⟩
  have x := st373 hF1
  have e73 : F1 373 73 = σ.1 0 7 + n := by rw [hF1, st2_s, u1_s]
  rw [e73]
  refine hq F1 (by omega) ?_ (fun a ha => ⟨rfl, funext fun f => x a f (by omega)⟩)
  refine xs_upd hX rfl (fun _ _ => rfl) (x _ _ (by omega)) ?_ ?_ ?_ ?_ ?_ ?_ ?_ ?_ ?_
  all_goals (simp only [put0, ne_eq, Int.add_right_inj, Int.reduceEq, not_false_eq_true, st2_n, st2_s, u1_s, u1_n, u1_u1])
  · rw [x _ _ (by omega)]; exact h5
  · exact h6
  · rw [x _ _ (by omega)]; exact h8
  · rw [x _ _ (by omega)]; exact h9
  · rw [x _ _ (by omega)]; exact h10
  · rw [e73, x _ _ (by omega)]; exact ⟨rfl, h11b, h11c⟩
  · rw [x _ _ (by omega)]; exact h12
  · rw [x _ _ (by omega)]; exact h13
  · rw [x _ _ (by omega)]; exact h14
theorem r_clear {X : Int × (Int → Int)} {k : Nat} {Q : Vv → Fn2 → Fn2 → Fn2 → Prop} {F A R : Fn2} {σ : Sg} {b : Int → Int} (hX : XI σ b F A) (hq : ∀ F', XI (put0 σ 8 0) b F' A → LO F A F' A → Q (vI (σ.1 0 8)) F' A R) : Wp X (k + 1) m_X11_clear [vA 373] F A R Q := by
  obtain ⟨h1, h2, h3, h4, h5, h6, h7, h8, h9, h10, h11, ⟨h12, h12b⟩, h13, h14⟩ := id hX
  refine Wp.of [vA 373, vN] rfl rfl rfl (b_X11_clear_0 fun g hg F2 hF2 => ?_)
  have x := st373 hF2
  rw [hg, h12]
  refine hq F2 ?_ (fun a ha => ⟨rfl, funext fun f => x a f (by omega)⟩)
  refine xs_upd hX rfl (fun _ _ => rfl) (x _ _ (by omega)) ?_ ?_ ?_ ?_ ?_ ?_ ?_ ?_ ?_
  all_goals (simp only [put0, ne_eq, Int.add_right_inj, Int.reduceEq, not_false_eq_true, st2_n, st2_s, u1_s, u1_n, u1_u1])
  · rw [x _ _ (by omega)]; exact h5
  · exact h6
  · rw [x _ _ (by omega)]; exact h8
  · rw [x _ _ (by omega)]; exact h9
  · rw [x _ _ (by omega)]; exact h10
  · rw [x _ _ (by omega), x _ _ (by omega)]; exact h11
  · exact ⟨by rw [hF2, st2_s, u1_s], fun i a b => by omega⟩
  · rw [x _ _ (by omega)]; exact h13
  · rw [x _ _ (by omega)]; exact h14
theorem r_log {X : Int × (Int → Int)} {k : Nat} {Q : Vv → Fn2 → Fn2 → Fn2 → Prop} {F A R : Fn2} {σ : Sg} {b' : Int → Int} {a b p : Int} (hR : RS R) (hS : SgI σ) (hX : XI σ b' F A) (hp : 0 ≤ p ∧ p ≤ 1) (hq : ∀ F' A', logOk σ a b → XI (putLog σ a b p) b' F' A' → LO F A F' A' → Q (vI (σ.1 0 8)) F' A' R) (hq' : ¬ logOk σ a b → Q (vI (-1)) F A R) : Wp X (k + 2) m_X11_log [vA 373, vI a, vI b, vI p] F A R Q := by
  obtain ⟨h1, h2, h3, h4, h5, h6, h7, h8, h9, h10, h11, ⟨h12, h12b⟩, h13, h14⟩ := id hX
  have l := hS.2.2.2.2.2.1
  have l1 := l.1
  have l2 := l.2.1
  refine Wp.of [vA 373, vI a, vI b, vI p] rfl rfl rfl (b_X11_log_0 (x_isIn (k := k) (fun q0 q1 => ?_) (fun h => b_X11_log_8 ⟨fun _ => hq' (by unfold logOk; omega), fun h => absurd rfl h⟩)))
  refine b_X11_log_8 ⟨fun h => absurd h (by decide), fun _ => x_isIn (k := k) (fun q2 q3 => ?_) (fun h => b_X11_log_19 hR ⟨fun _ => hq' (by unfold logOk; omega), fun h => absurd rfl h⟩)⟩
  refine b_X11_log_19 hR ⟨fun h => absurd h (by decide), fun _ => ?_⟩
  rw [h12]
  refine ⟨fun hne => ⟨by omega, by omega, fun A1 hA1 A2 hA2 => ⟨hp.1, hp.2, fun A3 hA3 => ⟨by omega, fun F4 hF4 => ?_⟩⟩⟩, fun he => hq' (by unfold logOk; omega)⟩
  have x := st373 hF4
  have e78 : F4 373 78 = σ.1 0 8 + 1 := by rw [hF4, st2_s, u1_s]
  have hA' : ∀ z, z < 417 ∨ 419 < z → A3 z = A z := fun z hz => by rw [hA3, hA2, hA1, st2_n (by omega), st2_n (by omega), st2_n (by omega)]
  obtain ⟨g0, g8, r1, r2, r3, r4, r5, r6, r7, r8⟩ := putLog_g (σ := σ) (a := a) (b := b) (p := p)
  rw [e78]
  refine ⟨by omega, ?_⟩
  rw [show σ.1 0 8 + 1 - 1 = σ.1 0 8 by omega]
  refine hq F4 A3 (by unfold logOk; omega) ?_ (fun z hz => ⟨hA' z (by omega), funext fun f => x z f (by omega)⟩)
  refine xs_upd hX rfl (fun z hz => hA' z (by omega)) (x _ _ (by omega)) ?_ ?_ ?_ ?_ ?_ ?_ ?_ ?_ ?_
  · rw [g0 _ (by decide), x _ _ (by omega)]; exact h5
  · rw [g0 _ (by decide), r1, hA' _ (by omega)]; exact h6
  · rw [g0 _ (by decide), x _ _ (by omega)]; exact h8
  · rw [g0 _ (by decide), x _ _ (by omega)]; exact h9
  · rw [g0 _ (by decide), x _ _ (by omega)]; exact h10
  · rw [g0 _ (by decide), g0 _ (by decide), r2, r3, r4, r5, x _ _ (by omega), x _ _ (by omega), hA' 408 (by omega), hA' 409 (by omega), hA' 410 (by omega), hA' 411 (by omega)]; exact h11
  · rw [g8, r6, r7, r8, e78]
    refine ⟨rfl, fun i i0 i1 => ?_⟩
    rw [hA3, hA2, hA1]
    simp only [ne_eq, Int.add_right_inj, Int.reduceEq, not_false_eq_true, st2_n, st2_s, u1_s, u1_u1]
    by_cases e : i = σ.1 0 8
    · subst e; simp only [u1_s, and_self]
    · rw [u1_n e, u1_n e, u1_n e, u1_n e, u1_n e, u1_n e]; exact h12b i i0 (by omega)
  · rw [g0 _ (by decide), x _ _ (by omega)]; exact h13
  · rw [g0 _ (by decide), x _ _ (by omega)]; exact h14
theorem r_sight {X : Int × (Int → Int)} {k : Nat} {Q : Vv → Fn2 → Fn2 → Fn2 → Prop} {F A R : Fn2} {σ : Sg} {b : Int → Int} {a w : Int} (hR : RS R) (hS : SgI σ) (hX : XI σ b F A) (hq : ∀ F' A', sightOk σ a w → XI (putSight σ a w) b F' A' → LO F A F' A' → Q (vI (σ.1 0 6)) F' A' R) (hq' : ¬ sightOk σ a w → Q (vI (-1)) F A R) : Wp X (k + 2) m_X11_sight [vA 373, vI a, vI w] F A R Q := by
  obtain ⟨h1, h2, h3, h4, h5, h6, h7, h8, h9, h10, ⟨h11, h11b, h11c⟩, h12, h13, h14⟩ := id hX
  have s4 := hS.2.2.2.1
  refine Wp.of [vA 373, vI a, vI w] rfl rfl rfl (b_X11_sight_0 (x_isIn (k := k) (fun q0 q1 => ?_) (fun h => b_X11_sight_7 ⟨fun _ => hq' (by unfold sightOk; omega), fun h => absurd rfl h⟩)))
  refine b_X11_sight_7 ⟨fun h => absurd h (by decide), fun _ => x_isIn (k := k) (fun q2 q3 => ?_) (fun h => b_X11_sight_18 hR ⟨fun _ => hq' (by unfold sightOk; omega), fun h => absurd rfl h⟩)⟩
  refine b_X11_sight_18 hR ⟨fun h => absurd h (by decide), fun _ => ?_⟩
  rw [h11b, h11]
  refine ⟨fun hne => ⟨by omega, by omega, fun A1 hA1 A2 hA2 A3 hA3 A4 hA4 => ⟨by omega, fun F5 hF5 => ?_⟩⟩, fun he => hq' (by unfold sightOk; omega)⟩
  have x := st373 hF5
  have e72 : F5 373 72 = σ.1 0 6 + 1 := by rw [hF5, st2_s, u1_s]
  have hA' : ∀ z, z < 408 ∨ 411 < z → A4 z = A z := fun z hz => by rw [hA4, hA3, hA2, hA1, st2_n (by omega), st2_n (by omega), st2_n (by omega), st2_n (by omega)]
  obtain ⟨g0, g6, r1, r2, r3, r4, r5, r6, r7, r8⟩ := putSight_g (σ := σ) (a := a) (w := w)
  rw [e72]
  refine ⟨by omega, ?_⟩
  rw [show σ.1 0 6 + 1 - 1 = σ.1 0 6 by omega]
  refine hq F5 A4 (by unfold sightOk; omega) ?_ (fun z hz => ⟨hA' z (by omega), funext fun f => x z f (by omega)⟩)
  refine xs_upd hX rfl (fun z hz => hA' z (by omega)) (x _ _ (by omega)) ?_ ?_ ?_ ?_ ?_ ?_ ?_ ?_ ?_
  · rw [g0 _ (by decide), x _ _ (by omega)]; exact h5
  · rw [g0 _ (by decide), r1, hA' _ (by omega)]; exact h6
  · rw [g0 _ (by decide), x _ _ (by omega)]; exact h8
  · rw [g0 _ (by decide), x _ _ (by omega)]; exact h9
  · rw [g0 _ (by decide), x _ _ (by omega)]; exact h10
  · rw [g0 _ (by decide), g6, r2, r3, r4, r5, x _ _ (by omega), e72]
    refine ⟨h11, rfl, fun i i0 i1 => ?_⟩
    rw [hA4, hA3, hA2, hA1]
    simp only [ne_eq, Int.add_right_inj, Int.reduceEq, not_false_eq_true, st2_n, st2_s, u1_s, u1_u1]
    by_cases e : i = σ.1 0 6
    · subst e; simp only [u1_s, and_self]
    · rw [u1_n e, u1_n e, u1_n e, u1_n e, u1_n e, u1_n e, u1_n e, u1_n e]; exact h11c i i0 (by omega)
  · rw [g0 _ (by decide), r6, r7, r8, x _ _ (by omega), hA' 417 (by omega), hA' 418 (by omega), hA' 419 (by omega)]; exact h12
  · rw [g0 _ (by decide), x _ _ (by omega)]; exact h13
  · rw [g0 _ (by decide), x _ _ (by omega)]; exact h14
theorem r_untell {X : Int × (Int → Int)} {k : Nat} {Q : Vv → Fn2 → Fn2 → Fn2 → Prop} {F A R : Fn2} {σ : Sg} {b : Int → Int} {i : Int} (hR : RS R) (hS : SgI σ) (hX : XI σ b F A) (hq : ∀ A', untellOk σ i → XI (putUn σ i) b F A' → LO F A F A' → Q (vI 1) F A' R) (hq' : ¬ untellOk σ i → Q (vI 0) F A R) : Wp X (k + 1) m_X11_untell [vA 373, vI i] F A R Q := by
  obtain ⟨h1, h2, h3, h4, h5, h6, h7, h8, h9, h10, ⟨h11, h11b, h11c⟩, h12, h13, h14⟩ := id hX
  have s4 := hS.2.2.2.1
  have s9 := hS.2.2.2.2.2.2.2.2
  refine Wp.of [vA 373, vI i] rfl rfl rfl (b_X11_untell_0 hR ?_)
  rw [h11b, h11]
  unfold untellOk at hq hq'
  refine ⟨fun h => hq' (by omega), fun q0 => ⟨fun h => hq' (by omega), fun q1 => ⟨by omega, by omega, ?_⟩⟩⟩
  rw [(h11c i (by omega) q1).2.2.2]
  have h59 := s9 i (by omega) q1
  refine ⟨fun he A1 hA1 => ?_, fun he => hq' (by omega)⟩
  have hA' : ∀ z, z ≠ 411 → A1 z = A z := fun z hz => by rw [hA1, st2_n hz]
  refine hq A1 (by omega) ?_ (fun z hz => ⟨hA' z (by omega), rfl⟩)
  refine xs_upd hX rfl (fun z hz => hA' z (by omega)) rfl ?_ ?_ ?_ ?_ ?_ ?_ ?_ ?_ ?_
  all_goals (unfold putUn; simp only [ne_eq, Int.add_right_inj, Int.reduceEq, not_false_eq_true, st2_n, st2_s, u1_s, u1_u1])
  · exact h5
  · rw [hA' _ (by omega)]; exact h6
  · exact h8
  · exact h9
  · exact h10
  · rw [hA' 408 (by omega), hA' 409 (by omega), hA' 410 (by omega)]
    refine ⟨h11, h11b, fun j a b => ?_⟩
    have h := h11c j a b
    refine ⟨h.1, h.2.1, h.2.2.1, ?_⟩
    rw [hA1, st2_s]
    by_cases e : j = i
    · subst e; rw [u1_s, u1_s]
    · rw [u1_n e, u1_n e]; exact h.2.2.2
  · rw [hA' 417 (by omega), hA' 418 (by omega), hA' 419 (by omega)]; exact h12
  · exact h13
  · exact h14
theorem r_fault {X : Int × (Int → Int)} {k : Nat} {Q : Vv → Fn2 → Fn2 → Fn2 → Prop} {F A R : Fn2} {σ : Sg} {b : Int → Int} {w : Int} (hX : XI σ b F A) (hq : Q (vI (ansFault σ w)) F A R) : Wp X (k + 1) m_X11_fault [vA 373, vI w] F A R Q := by
  obtain ⟨h1, h2, h3, h4, h5, h6, h7, h8, h9, h10, h11, h12, h13, h14⟩ := hX
  refine Wp.of [vA 373, vI w] rfl rfl rfl (b_X11_fault_0 ?_)
  rw [h13, h14]
  unfold ansFault at hq
  refine ⟨fun h => ⟨fun h2 => ?_, fun h2 => ?_⟩, fun h => ?_⟩
  · rwa [if_neg h, if_neg h2] at hq
  · rwa [if_neg h, if_pos h2] at hq
  · rwa [if_pos h] at hq
/-- behind a gap that is too wide none fits -/
theorem gpN_far {g a b c d w : Int} {n : Nat} (h : gpOk' g a b c d w) (hf : g < ((n : Int) + 1) * a + n * c) : ∀ m : Nat, gpN g a b c d w (n + m) = gpN g a b c d w n
  | 0 => rfl
  | m + 1 => by
    have unf : gpN g a b c d w (n + m + 1) = if gpD g a b c d (n + m : Nat) ∧ (w = 1 ∨ gpN g a b c d w (n + m) = -1) then ((n + m : Nat) : Int) else gpN g a b c d w (n + m) := rfl
    rw [show n + (m + 1) = n + m + 1 by omega, unf, if_neg, gpN_far h hf m]
    rintro ⟨⟨h1, -⟩, -⟩
    have e1 : ((n : Int) + 1) * a ≤ (((n + m : Nat) : Int) + 1) * a := Int.mul_le_mul_of_nonneg_right (by omega) (by omega)
    have e2 : (n : Int) * c ≤ ((n + m : Nat) : Int) * c := Int.mul_le_mul_of_nonneg_right (by omega) (by omega)
    omega
theorem r_gapL {X : Int × (Int → Int)} {k : Nat} {Q : Vv → Fn2 → Fn2 → Fn2 → Prop} {R : Fn2} {g a b c d w : Int} {F A : Fn2} (h : gpOk' g a b c d w) (hq : Q (vI (gpN g a b c d w (g + 1).toNat)) F A R) : ∀ (m n : Nat), (n : Int) + m = g + 1 → G X k m_X11_gap Q 76 [vA 373, vI g, vI a, vI b, vI c, vI d, vI w, vI (gpN g a b c d w n), vI n] [] F A R
  | 0, n, hm => by
    have e : n = (g + 1).toNat := by omega
    have m1 : 0 ≤ ((n : Int) + 1) * a ∧ ((n : Int) + 1) * a ≤ 2002 * 999 := mul_b (by omega) (by omega) (by omega) (by omega)
    have m2 := gp_mul (k := (n : Int)) (a := c) (by omega) (by omega) (by omega) (by omega)
    have m3 : (n : Int) + 1 ≤ ((n : Int) + 1) * a := by
      have := Int.mul_le_mul_of_nonneg_left (show (1 : Int) ≤ a by omega) (show (0 : Int) ≤ (n : Int) + 1 by omega)
      omega
    exact b_X11_gap_76 ⟨by omega, by omega, by omega, by omega, fun _ => by rw [e]; exact hq, fun h => absurd (show g < ((n : Int) + 1) * a + (n : Int) * c by omega) h⟩
  | m + 1, n, hm => by
    have m1 := gp_mul (k := (n : Int) + 1) (a := a) (by omega) (by omega) (by omega) (by omega)
    have m2 := gp_mul (k := (n : Int)) (a := c) (by omega) (by omega) (by omega) (by omega)
    have m3 := gp_mul (k := (n : Int) + 1) (a := b) (by omega) (by omega) (by omega) (by omega)
    have m4 := gp_mul (k := (n : Int)) (a := d) (by omega) (by omega) (by omega) (by omega)
    have hb := gpN_b (g := g) (a := a) (b := b) (c := c) (d := d) (w := w) n
    have unf : gpN g a b c d w (n + 1) = if gpD g a b c d n ∧ (w = 1 ∨ gpN g a b c d w n = -1) then (n : Int) else gpN g a b c d w n := rfl
    have nx : ∀ v, v = gpN g a b c d w (n + 1) → G X k m_X11_gap Q 76 [vA 373, vI g, vI a, vI b, vI c, vI d, vI w, vI v, vI ((n : Int) + 1)] [] F A R := by
      intro v hv
      rw [hv]
      exact r_gapL (X := X) (k := k) h hq m (n + 1) (by omega)
    refine b_X11_gap_76 ⟨by omega, by omega, by omega, by omega, fun h1 => ?_, fun h1 => ⟨by omega, by omega, by omega, fun h2 => nx _ ?_, fun h2 => ⟨fun h3 => nx _ ?_, fun h3 => ⟨fun h4 => nx _ ?_, fun h4 => nx _ ?_⟩⟩⟩⟩
    · have e := gpN_far h h1 (m + 1)
      rw [show n + (m + 1) = (g + 1).toNat by omega] at e
      rw [← e]; exact hq
    · rw [unf, if_neg (fun h => by have := h.1.2; omega)]
    · rw [unf, if_pos ⟨⟨by omega, by omega⟩, Or.inr (by omega)⟩]
    · rw [unf, if_neg (fun h => by rcases h.2 with h | h; exact h4 h; omega)]
    · rw [unf, if_pos ⟨⟨by omega, by omega⟩, Or.inl h4⟩]
theorem r_gap {X : Int × (Int → Int)} {k : Nat} {Q : Vv → Fn2 → Fn2 → Fn2 → Prop} {F A R : Fn2} {g a b c d w : Int} (hq : Q (vI (ansGap g a b c d w)) F A R) : Wp X (k + 2) m_X11_gap [vA 373, vI g, vI a, vI b, vI c, vI d, vI w] F A R Q := by
  unfold ansGap at hq
  have no : ∀ w7 w8, ¬ gpOk' g a b c d w → G X (k + 1) m_X11_gap Q 68 [vA 373, vI g, vI a, vI b, vI c, vI d, vI w, w7, w8] [] F A R := fun w7 w8 h => b_X11_gap_68 (by rwa [if_neg h] at hq)
  refine Wp.of [vA 373, vI g, vI a, vI b, vI c, vI d, vI w, vN, vN] rfl rfl rfl (b_X11_gap_0 (x_isIn (k := k) (fun q0 q1 => ?_) (fun h => b_X11_gap_8 ⟨fun _ => no _ _ (by omega), fun h => absurd rfl h⟩)))
  refine b_X11_gap_8 ⟨fun h => absurd h (by decide), fun _ => x_isIn (k := k) (fun q2 q3 => ?_) (fun h => b_X11_gap_19 ⟨fun _ => no _ _ (by omega), fun h => absurd rfl h⟩)⟩
  refine b_X11_gap_19 ⟨fun h => absurd h (by decide), fun _ => x_isIn (k := k) (fun q4 q5 => ?_) (fun h => b_X11_gap_30 ⟨fun _ => no _ _ (by omega), fun h => absurd rfl h⟩)⟩
  refine b_X11_gap_30 ⟨fun h => absurd h (by decide), fun _ => x_isIn (k := k) (fun q6 q7 => ?_) (fun h => b_X11_gap_42 ⟨fun _ => no _ _ (by omega), fun h => absurd rfl h⟩)⟩
  refine b_X11_gap_42 ⟨fun h => absurd h (by decide), fun _ => x_isIn (k := k) (fun q8 q9 => ?_) (fun h => b_X11_gap_55 ⟨fun _ => no _ _ (by omega), fun h => absurd rfl h⟩)⟩
  refine b_X11_gap_55 ⟨fun h => absurd h (by decide), fun _ => x_isIn (k := k) (fun q10 q11 => ?_) (fun h => b_X11_gap_65 ⟨fun h => absurd rfl h, fun _ => no _ _ (by omega)⟩)⟩
  refine b_X11_gap_65 ⟨fun _ => ?_, fun h => absurd h (by decide)⟩
  have hok : gpOk' g a b c d w := by omega
  rw [if_pos hok] at hq
  exact r_gapL (X := X) (k := k + 1) hok hq (g + 1).toNat 0 (by omega)
theorem r_about {X : Int × (Int → Int)} {k : Nat} {Q : Vv → Fn2 → Fn2 → Fn2 → Prop} {F A R : Fn2} {σ : Sg} {b : Int → Int} {w : Int} (hR : RS R) (hX : XI σ b F A) (hq : Q (vI (ansAbout σ w)) F A R) : Wp X (k + 2) m_X11_about [vA 373, vI w] F A R Q := by
  obtain ⟨h1, h2, h3, h4, h5, h6, h7, h8, h9, h10, ⟨h11, h11b, h11c⟩, ⟨h12, h12b⟩, h13, h14⟩ := hX
  unfold ansAbout at hq
  refine Wp.of [vA 373, vI w] rfl rfl rfl (b_X11_about_0 (x_isIn (k := k) (fun q0 q1 => b_X11_about_6 hR ⟨fun h => absurd h (by decide), fun _ => ?_⟩) (fun n1 => b_X11_about_6 hR ⟨fun _ => ?_, fun h => absurd rfl h⟩)))
  · rw [if_pos (by omega)] at hq
    have h := h3 w.toNat (by omega)
    have hb := h1 (w.toNat : Int) (by omega) (by omega)
    rw [show w = (w.toNat : Int) by omega] at hq ⊢
    rw [h.1, ← RPm_0 (A := A), ← h.2.1.1]
    rw [show ((w.toNat : Nat) : Int).toNat = w.toNat by omega] at hq
    exact ⟨by omega, by omega, by omega, by omega, hq⟩
  · refine x_isIn (k := k) (fun q0 q1 => b_X11_about_28 hR ⟨fun h => absurd h (by decide), fun _ => ?_⟩) (fun n2 => b_X11_about_28 hR ⟨fun _ => ?_, fun h => absurd rfl h⟩)
    · rw [if_neg (by omega), if_pos (by omega)] at hq
      have h := h3 (w - 4).toNat (by omega)
      have hb := h1 ((w - 4).toNat : Int) (by omega) (by omega)
      rw [show w - 4 = ((w - 4).toNat : Int) by omega, h.1, ← RPm_01 (A := A), ← h.2.1.2.1]
      exact ⟨by omega, by omega, by omega, by omega, by omega, hq⟩
    · rw [if_neg (by omega), if_neg (by omega)] at hq
      rw [h8, h11b, h12, h11, h5]
      refine ⟨fun e => ?_, fun e8 => ⟨fun e => ?_, fun e9 => ⟨fun e => ?_, fun e10 => ⟨fun e => ?_, fun e11 => ⟨fun e => ?_, fun e12 => ?_⟩⟩⟩⟩⟩
      · rwa [if_pos e] at hq
      · rwa [if_neg e8, if_pos e] at hq
      · rwa [if_neg e8, if_neg e9, if_pos e] at hq
      · rwa [if_neg e8, if_neg e9, if_neg e10, if_pos e] at hq
      · rwa [if_neg e8, if_neg e9, if_neg e10, if_neg e11, if_pos e] at hq
      · rwa [if_neg e8, if_neg e9, if_neg e10, if_neg e11, if_neg e12] at hq
