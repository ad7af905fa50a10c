/-! THE SMALL CALLS, on -/
theorem c_high {X : Int × (Int → Int)} {k : Nat} {Q : Vv → Fn2 → Fn2 → Fn2 → Prop} {F A R : Fn2} {σ : Sg} {q : Int → Int} {l n : Int} (hS : SgI σ) (hB : CB σ q l F A R) (hC : CC σ q l F A R) (hI : ShI σ F) (hq : ∀ F', (1 ≤ n ∧ n ≤ 99 → CS (put0 σ 2 n) q l F A F' A R) → (¬ (1 ≤ n ∧ n ≤ 99) → F' = F) → KG F A F' A → Q (vI (if 1 ≤ n ∧ n ≤ 99 then 1 else 0)) F' A R) : Wp X (k + 1) m_X10_high [vA 0, vI n] F A R Q := by
  have no : ¬ (1 ≤ n ∧ n ≤ 99) → Q (vI 0) F A R := fun h => by
    have := hq F (fun h' => absurd h' h) (fun _ => rfl) ⟨fun _ => rfl, fun _ _ _ => rfl⟩
    rwa [if_neg h] at this
  refine Wp.of [vA 0, vI n] rfl rfl rfl (b_X10_high_0 ⟨fun h => no (by omega), fun h0 => ⟨fun h1 F1 hF1 F2 hF2 => ?_, fun h => no (by omega)⟩⟩)
  have hy : 1 ≤ n ∧ n ≤ 99 := by omega
  have x1 := st0 hF1
  have x2 := st0 hF2
  have hF' : ∀ a f, a ≠ 0 ∨ f ≠ 8 ∧ f ≠ 15 → F2 a f = F a f := fun a f hx => by rw [x2 a f (by omega), x1 a f (by omega)]
  have := hq F2 (fun _ => ?_) (fun h => absurd hy h) ⟨fun f => hF' _ _ (by omega), fun _ _ _ => rfl⟩
  · rwa [if_pos hy] at this
  · obtain ⟨s1, s2, s3, s4, s5, s6, s7, s8, s9⟩ := hS
    obtain ⟨h1, h2, h3, h4, h5, h6, h7, h8, h9, h10, h11, h12, h13, h14, ⟨h17, h18, h19⟩, h20, h21⟩ := id hB
    refine cs_upd ?_ hB rfl (hC.f rfl (by simp only [put0, ne_eq, Int.add_right_inj, Int.reduceEq, not_false_eq_true, st2_n, st2_s, u1_s, u1_n, u1_u1]) (fun a f a1 a2 => hF' a f (by omega)) (fun _ _ _ => rfl)) (Or.inl (by rw [hF2, st2_s, u1_s])) (fun a f h => hF' a f (by unfold inQ at h; omega)) (fun _ _ => Or.inr (Or.inr (Or.inr rfl))) rfl (fun a ha => ⟨rfl, funext fun f => hF' a f (by omega)⟩) ?_ ?_ ?_ ?_ ?_ ?_ ?_ ?_ ?_
    · refine ⟨?_, ?_, ?_, ?_, ?_, ?_, s7, ?_, ?_⟩ <;> simp only [put0, ne_eq, Int.add_right_inj, Int.reduceEq, not_false_eq_true, st2_n, st2_s, u1_s, u1_n, u1_u1] <;> assumption
    all_goals (simp only [put0, ne_eq, Int.add_right_inj, Int.reduceEq, not_false_eq_true, st2_n, st2_s, u1_s, u1_n, u1_u1])
    · rw [hF' _ _ (by omega)]; exact h8
    · exact h9
    · rw [hF' _ _ (by omega)]; exact h12
    · rw [x2 _ _ (by omega), hF1, st2_s, u1_s]
    · rw [hF' _ _ (by omega), hF' _ _ (by omega)]; exact h14
    · rw [hF' _ _ (by omega)]; exact ⟨h17, h18⟩
    · rw [hF' _ _ (by omega)]; exact h20
    · rw [hF' _ _ (by omega)]; exact h21
theorem c_forgetL {X : Int × (Int → Int)} {k : Nat} {Q : Vv → Fn2 → Fn2 → Fn2 → Prop} {R : Fn2} {F0 A : Fn2} (hR : RS R) (hq : ∀ F', (∀ i : Nat, i < 4 → F' (crs i) 8 = -1) → F' 0 15 = -1 → (∀ a f, (∀ i : Nat, i < 4 → a ≠ crs i ∨ f ≠ 8) → a ≠ 0 ∨ f ≠ 15 → F' a f = F0 a f) → Q vN F' A R) : ∀ (m i : Nat) (F : Fn2), i + m = 4 → (∀ j : Nat, j < i → F (crs j) 8 = -1) → (∀ a f, (∀ j : Nat, j < i → a ≠ crs j ∨ f ≠ 8) → F a f = F0 a f) → G X (k + 1) m_X10_forgetCourses Q 2 [vA 0, vI i] [] F A R
  | 0, i, F, hm, h1, h2 => by
    have e : i = 4 := by omega
    subst e
    refine b_X10_forgetCourses_2 hR ⟨fun _ F1 hF1 => hq F1 (fun j hj => ?_) (by rw [hF1, st2_s, u1_s]) (fun a f hx hy => ?_), fun h => absurd h (by decide)⟩
    · rw [st0 hF1 _ _ (by unfold crs; omega)]; exact h1 j hj
    · rw [st0 hF1 _ _ hy]; exact h2 a f hx
  | m + 1, i, F, hm, h1, h2 => by
    have hi : i < 4 := by omega
    refine b_X10_forgetCourses_2 hR ⟨fun h => by omega, fun _ => ⟨by omega, by omega, ?_⟩⟩
    have ec : (189 + 46 * (i : Int)) = crs i := rfl
    rw [ec]
    refine Wp.of (k := k) [vA (crs i)] rfl rfl rfl (b_X1_forget_0 (crs_at hi) fun F1 hF1 => b_X10_forgetCourses_16 ⟨by omega, ?_⟩)
    have x1 : ∀ a f, a ≠ crs i ∨ f ≠ 8 → F1 a f = F a f := fun a f hx => by
      rw [hF1]
      by_cases e : a = crs i
      · subst e; rw [st2_s, u1_n (by omega)]
      · rw [st2_n e]
    have := c_forgetL (X := X) (k := k) hR hq m (i + 1) F1 (by omega) (fun j hj => by
      by_cases e : j = i
      · subst e; rw [hF1, st2_s, u1_s]
      · rw [x1 _ _ (by unfold crs; omega)]; exact h1 j (by omega)) (fun a f hx => by
      rw [x1 a f (hx i (by omega))]; exact h2 a f fun j hj => hx j (by omega))
    exact this
theorem c_forget {X : Int × (Int → Int)} {k : Nat} {Q : Vv → Fn2 → Fn2 → Fn2 → Prop} {F A R : Fn2} (hR : RS R) (hq : ∀ F', (∀ i : Nat, i < 4 → F' (crs i) 8 = -1) → F' 0 15 = -1 → (∀ a f, (∀ i : Nat, i < 4 → a ≠ crs i ∨ f ≠ 8) → a ≠ 0 ∨ f ≠ 15 → F' a f = F a f) → Q vN F' A R) : Wp X (k + 2) m_X10_forgetCourses [vA 0] F A R Q :=
  Wp.of [vA 0, vN] rfl rfl rfl (b_X10_forgetCourses_0 (c_forgetL (X := X) (k := k) hR hq 4 0 F rfl (fun j hj => absurd hj (by omega)) (fun _ _ _ => rfl)))
theorem c_cold {X : Int × (Int → Int)} {k : Nat} {Q : Vv → Fn2 → Fn2 → Fn2 → Prop} {F A R : Fn2} {σ : Sg} {q : Int → Int} {l n : Int} (hS : SgI σ) (hB : CB σ q l F A R) (hC : CC σ q l F A R) (hI : ShI σ F) (hq : ∀ F', (0 ≤ n ∧ n ≤ 99 → CS (put0 σ 1 n) q l F A F' A R) → (¬ (0 ≤ n ∧ n ≤ 99) → F' = F) → KG F A F' A → Q (vI (if 0 ≤ n ∧ n ≤ 99 then 1 else 0)) F' A R) : Wp X (k + 3) m_X10_cold [vA 0, vI n] F A R Q := by
  have no : ¬ (0 ≤ n ∧ n ≤ 99) → Q (vI 0) F A R := fun h => by
    have := hq F (fun h' => absurd h' h) (fun _ => rfl) ⟨fun _ => rfl, fun _ _ _ => rfl⟩
    rwa [if_neg h] at this
  refine Wp.of [vA 0, vI n] rfl rfl rfl (b_X10_cold_0 ⟨fun h => no (by omega), fun h0 => ⟨fun h1 F1 hF1 => ?_, fun h => no (by omega)⟩⟩)
  have hy : 0 ≤ n ∧ n ≤ 99 := by omega
  have x1 := st0 hF1
  refine c_forget (k := k) hB.1 fun F2 y1 y2 y3 => b_X10_cold_21 ?_
  have hF' : ∀ a f, a ≠ 0 ∨ f ≠ 7 ∧ f ≠ 15 → (∀ i : Nat, i < 4 → a ≠ crs i) → F2 a f = F a f := fun a f hx hy => by
    rw [y3 a f (fun i hi => Or.inl (hy i hi)) (by omega), x1 a f (by omega)]
  have nc : ∀ a, a < 189 ∨ 327 < a → ∀ i : Nat, i < 4 → a ≠ crs i := fun a ha i hi => by unfold crs; omega
  have nq : ∀ a, inQ a ∨ a = 17 ∨ a = 22 → ∀ i : Nat, i < 4 → a ≠ crs i := fun a ha i hi => by unfold crs; unfold inQ at ha; omega
  have := hq F2 (fun _ => ?_) (fun h => absurd hy h) ⟨fun f => hF' _ _ (by omega) (nc _ (by omega)), fun _ _ _ => rfl⟩
  · rwa [if_pos hy] at this
  · obtain ⟨s1, s2, s3, s4, s5, s6, s7, s8, s9⟩ := hS
    obtain ⟨h1, h2, h3, h4, h5, h6, h7, h8, h9, h10, h11, h12, h13, h14, ⟨h17, h18, h19⟩, h20, h21⟩ := id hB
    refine cs_upd ?_ hB rfl (fun i hi => Or.inl (y1 i hi)) (Or.inl y2) (fun a f h => hF' a f (by unfold inQ at h; omega) (nq a h)) (fun _ _ => Or.inr (Or.inr (Or.inr rfl))) rfl (fun a ha => ⟨rfl, funext fun f => hF' a f (by omega) (nc a (by omega))⟩) ?_ ?_ ?_ ?_ ?_ ?_ ?_ ?_ ?_
    · refine ⟨?_, ?_, ?_, ?_, ?_, ?_, s7, ?_, ?_⟩ <;> simp only [put0, ne_eq, Int.add_right_inj, Int.reduceEq, not_false_eq_true, st2_n, st2_s, u1_s, u1_n, u1_u1] <;> assumption
    all_goals (simp only [put0, ne_eq, Int.add_right_inj, Int.reduceEq, not_false_eq_true, st2_n, st2_s, u1_s, u1_n, u1_u1])
    · rw [hF' _ _ (by omega) (nc _ (by omega))]; exact h8
    · exact h9
    · rw [y3 _ _ (fun i hi => Or.inl (nc _ (by omega) i hi)) (by omega), hF1, st2_s, u1_s]
    · rw [hF' _ _ (by omega) (nc _ (by omega))]; exact h13
    · rw [hF' _ _ (by omega) (nc _ (by omega)), hF' _ _ (by omega) (nc _ (by omega))]; exact h14
    · rw [hF' _ _ (by omega) (nc _ (by omega))]; exact ⟨h17, h18⟩
    · rw [hF' _ _ (by omega) (nc _ (by omega))]; exact h20
    · rw [hF' _ _ (by omega) (nc _ (by omega))]; exact h21
def laterOk (σ : Sg) (n : Int) : Prop := 0 ≤ n ∧ n ≤ 1000 ∧ σ.1 0 7 + n ≤ 100000
theorem c_later {X : Int × (Int → Int)} {k : Nat} {Q : Vv → Fn2 → Fn2 → Fn2 → Prop} {F A R : Fn2} {σ : Sg} {q : Int → Int} {l n : Int} (hS : SgI σ) (hB : CB σ q l F A R) (hC : CC σ q l F A R) (hI : ShI σ F) (hq : ∀ F', laterOk σ n → CS (put0 σ 7 (σ.1 0 7 + n)) q l F A F' A R → KG F A F' A → Q (vI (σ.1 0 7 + n)) F' A R) (hq' : ¬ laterOk σ n → Q (vI (-1)) F A R) : Wp X (k + 1) m_X10_later [vA 0, vI n] F A R Q := by
  obtain ⟨s1, s2, s3, s4, s5, s6, s7, s8, s9⟩ := hS
  obtain ⟨h1, h2, h3, h4, h5, h6, h7, h8, h9, h10, h11, h12, h13, ⟨h14, h15, h16⟩, ⟨h17, h18, h19⟩, h20, h21⟩ := id hB
  refine Wp.of [vA 0, vI n] rfl rfl rfl (b_X10_later_0 h1 ?_)
  rw [h14]
  unfold laterOk at hq hq'
  refine ⟨fun h => hq' (by omega), fun h0 => ⟨fun h => hq' (by omega), fun h1' => ⟨by omega, fun h2' F1 hF1 => ?_, fun h => hq' (by omega)⟩⟩⟩
  have hF' : ∀ a f, a ≠ 66 ∨ f ≠ 0 → F1 a f = F a f := fun a f hx => by
    rw [hF1]
    by_cases e : a = 66
    · subst e; rw [st2_s, u1_n (by omega)]
    · rw [st2_n e]
  have e66 : F1 66 0 = σ.1 0 7 + n := by rw [hF1, st2_s, u1_s]
  rw [e66]
  refine hq F1 (by omega) ?_ ⟨fun f => hF' _ _ (by omega), fun _ _ _ => rfl⟩
  refine cs_upd ?_ hB rfl (hC.f rfl (by simp only [put0, ne_eq, Int.add_right_inj, Int.reduceEq, not_false_eq_true, st2_n, st2_s, u1_s, u1_n, u1_u1]) (fun a f a1 a2 => hF' a f (by omega)) (fun _ _ _ => rfl)) (hI.of (fun f h1 h2 => hF' _ _ (by omega)) rfl (by simp only [put0, ne_eq, Int.add_right_inj, Int.reduceEq, not_false_eq_true, st2_n, st2_s, u1_s, u1_n, u1_u1]) (by simp only [put0, ne_eq, Int.add_right_inj, Int.reduceEq, not_false_eq_true, st2_n, st2_s, u1_s, u1_n, u1_u1]) (by simp only [put0, ne_eq, Int.add_right_inj, Int.reduceEq, not_false_eq_true, st2_n, st2_s, u1_s, u1_n, u1_u1]) (by simp only [put0, ne_eq, Int.add_right_inj, Int.reduceEq, not_false_eq_true, st2_n, st2_s, u1_s, u1_n, u1_u1]) (by simp only [put0, ne_eq, Int.add_right_inj, Int.reduceEq, not_false_eq_true, st2_n, st2_s, u1_s, u1_n, u1_u1]) (by simp only [put0, ne_eq, Int.add_right_inj, Int.reduceEq, not_false_eq_true, st2_n, st2_s, u1_s, u1_n, u1_u1])) (fun a f h => hF' a f (by unfold inQ at h; omega)) (fun _ _ => Or.inr (Or.inr (Or.inr rfl))) rfl (fun a ha => ⟨rfl, funext fun f => hF' a f (by omega)⟩) ?_ ?_ ?_ ?_ ?_ ?_ ?_ ?_ ?_
  · refine ⟨?_, ?_, ?_, ?_, ?_, ?_, s7, ?_, ?_⟩ <;> simp only [put0, ne_eq, Int.add_right_inj, Int.reduceEq, not_false_eq_true, st2_n, st2_s, u1_s, u1_n, u1_u1] <;> first | assumption | omega
  all_goals (simp only [put0, ne_eq, Int.add_right_inj, Int.reduceEq, not_false_eq_true, st2_n, st2_s, u1_s, u1_n, u1_u1])
  · rw [hF' _ _ (by omega)]; exact h8
  · exact h9
  · rw [hF' _ _ (by omega)]; exact h12
  · rw [hF' _ _ (by omega)]; exact h13
  · rw [e66, hF' _ _ (by omega)]; exact ⟨rfl, h15, h16⟩
  · rw [hF' _ _ (by omega)]; exact ⟨h17, h18⟩
  · rw [hF' _ _ (by omega)]; exact h20
  · rw [hF' _ _ (by omega)]; exact h21
theorem c_clear {X : Int × (Int → Int)} {k : Nat} {Q : Vv → Fn2 → Fn2 → Fn2 → Prop} {F A R : Fn2} {σ : Sg} {q : Int → Int} {l : Int} (hS : SgI σ) (hB : CB σ q l F A R) (hC : CC σ q l F A R) (hI : ShI σ F) (hq : ∀ F', CS (put0 σ 8 0) q l F A F' A R → KG F A F' A → Q (vI (σ.1 0 8)) F' A R) : Wp X (k + 1) m_X10_clear [vA 0] F A R Q := by
  obtain ⟨s1, s2, s3, s4, s5, s6, s7, s8, s9⟩ := hS
  obtain ⟨h1, h2, h3, h4, h5, h6, h7, h8, h9, h10, h11, h12, h13, ⟨h14, h15, h16⟩, ⟨h17, h18, h19⟩, h20, h21⟩ := id hB
  refine Wp.of [vA 0, vN] rfl rfl rfl (b_X10_clear_0 h1 fun g hg F2 hF2 F3 hF3 => ?_)
  have x3 := st0 hF3
  have hF' : ∀ a f, a ≠ 0 ∨ f ≠ 15 → a ≠ 184 ∨ f ≠ 0 → F3 a f = F a f := fun a f hx hy => by
    rw [x3 a f hx, hF2]
    by_cases e : a = 184
    · subst e; rw [st2_s, u1_n (by omega)]
    · rw [st2_n e]
  rw [hg, h17]
  refine hq F3 ?_ ⟨fun f => hF' _ _ (by omega) (by omega), fun _ _ _ => rfl⟩
  refine cs_upd ?_ hB rfl (hC.f rfl (by simp only [put0, ne_eq, Int.add_right_inj, Int.reduceEq, not_false_eq_true, st2_n, st2_s, u1_s, u1_n, u1_u1]) (fun a f a1 a2 => hF' a f (by omega) (by omega)) (fun _ _ _ => rfl)) (Or.inl (by rw [hF3, st2_s, u1_s])) (fun a f h => hF' a f (by unfold inQ at h; omega) (by unfold inQ at h; omega)) (fun _ _ => Or.inr (Or.inr (Or.inr rfl))) rfl (fun a ha => ⟨rfl, funext fun f => hF' a f (by omega) (by omega)⟩) ?_ ?_ ?_ ?_ ?_ ?_ ?_ ?_ ?_
  · refine ⟨?_, ?_, ?_, ?_, ?_, ?_, s7, ?_, ?_⟩ <;> simp only [put0, ne_eq, Int.add_right_inj, Int.reduceEq, not_false_eq_true, st2_n, st2_s, u1_s, u1_n, u1_u1] <;> first | assumption | skip
    exact ⟨by omega, by omega, fun i a b => by omega⟩
  all_goals (simp only [put0, ne_eq, Int.add_right_inj, Int.reduceEq, not_false_eq_true, st2_n, st2_s, u1_s, u1_n, u1_u1])
  · rw [hF' _ _ (by omega) (by omega)]; exact h8
  · exact h9
  · rw [hF' _ _ (by omega) (by omega)]; exact h12
  · rw [hF' _ _ (by omega) (by omega)]; exact h13
  · rw [hF' _ _ (by omega) (by omega), hF' _ _ (by omega) (by omega)]; exact ⟨h14, h15, h16⟩
  · refine ⟨?_, fun i a b => by omega⟩
    rw [x3 _ _ (by omega), hF2, st2_s, u1_s]
  · rw [hF' _ _ (by omega) (by omega)]; exact h20
  · rw [hF' _ _ (by omega) (by omega)]; exact h21
def logOk (σ : Sg) (a b : Int) : Prop := 1 ≤ a ∧ a ≤ b ∧ b ≤ 500 ∧ σ.1 0 8 < 40
def putLog (σ : Sg) (a b p : Int) : Sg := (st2 (st2 (st2 (st2 σ.1 6 (σ.1 0 8) a) 7 (σ.1 0 8) b) 8 (σ.1 0 8) p) 0 8 (σ.1 0 8 + 1), σ.2)
theorem putLog_g {σ : Sg} {a b p : Int} : (∀ i, i ≠ 8 → (putLog σ a b p).1 0 i = σ.1 0 i) ∧ (putLog σ a b p).1 0 8 = σ.1 0 8 + 1 ∧ (putLog σ a b p).1 1 = σ.1 1 ∧ (putLog σ a b p).1 2 = σ.1 2 ∧ (putLog σ a b p).1 3 = σ.1 3 ∧ (putLog σ a b p).1 4 = σ.1 4 ∧ (putLog σ a b p).1 5 = σ.1 5 ∧ (putLog σ a b p).1 6 = u1 (σ.1 6) (σ.1 0 8) a ∧ (putLog σ a b p).1 7 = u1 (σ.1 7) (σ.1 0 8) b ∧ (putLog σ a b p).1 8 = u1 (σ.1 8) (σ.1 0 8) p := by
  unfold putLog
  refine ⟨fun i hi => ?_, ?_⟩
  · simp only [ne_eq, Int.add_right_inj, Int.reduceEq, not_false_eq_true, st2_n, st2_s, u1_s, u1_u1, u1_n hi]
  · simp only [ne_eq, Int.add_right_inj, Int.reduceEq, not_false_eq_true, st2_n, st2_s, u1_s, u1_u1, and_self]
theorem putLog_S {σ : Sg} {a b p : Int} (hS : SgI σ) (h : logOk σ a b) (hp : 0 ≤ p ∧ p ≤ 1) : SgI (putLog σ a b p) := by
  obtain ⟨s1, s2, s3, s4, s5, ⟨l1, l2, l3⟩, s7, s8, s9⟩ := hS
  obtain ⟨g0, g8, r1, r2, r3, r4, r5, r6, r7, r8⟩ := putLog_g (σ := σ) (a := a) (b := b) (p := p)
  unfold logOk at h
  unfold SgI
  rw [g0 0 (by decide), g0 1 (by decide), g0 2 (by decide), g0 6 (by decide), g0 7 (by decide), g8, r1, r2, r3, r4, r5, r6, r7, r8]
  refine ⟨s1, s2, s3, s4, s5, ⟨by omega, by omega, fun i a' b' => ?_⟩, s7, s8, s9⟩
  by_cases e : i = σ.1 0 8
  · subst e; simp only [u1_s]; omega
  · rw [u1_n e, u1_n e, u1_n e]; exact l3 i a' (by omega)
theorem c_log {X : Int × (Int → Int)} {k : Nat} {Q : Vv → Fn2 → Fn2 → Fn2 → Prop} {F A R : Fn2} {σ : Sg} {q : Int → Int} {l a b p : Int} (hS : SgI σ) (hB : CB σ q l F A R) (hC : CC σ q l F A R) (hI : ShI σ F) (hp : 0 ≤ p ∧ p ≤ 1) (hq : ∀ F' A', logOk σ a b → CS (putLog σ a b p) q l F A F' A' R → KG F A F' A' → Q (vI (σ.1 0 8)) F' A' R) (hq' : ∀ F', ¬ logOk σ a b → CS σ q l F A F' A R → KG F A F' A → Q (vI (-1)) F' A R) : Wp X (k + 2) m_X10_log [vA 0, vI a, vI b, vI p] F A R Q := by
  have hS' := putLog_S (a := a) (b := b) (p := p) hS
  obtain ⟨s1, s2, s3, s4, s5, ⟨l1, l2, l3⟩, s7, s8, s9⟩ := id hS
  obtain ⟨h1, h2, h3, h4, h5, h6, h7, h8, h9, h10, h11, h12, h13, ⟨h14, h15, h16⟩, ⟨h17, h18, h19⟩, h20, h21⟩ := id hB
  have no : ¬ logOk σ a b → Q (vI (-1)) F A R := fun h => hq' F h ⟨hS, hB, hC, hI, fun _ _ => ⟨rfl, rfl⟩⟩ ⟨fun _ => rfl, fun _ _ _ => rfl⟩
  refine Wp.of [vA 0, vI a, vI b, vI p] rfl rfl rfl (b_X10_log_0 h1 ⟨fun h => no (by unfold logOk; omega), fun q0 => ⟨fun h => no (by unfold logOk; omega), fun q1 => ⟨fun q2 F1 hF1 => ?_, fun h => no (by unfold logOk; omega)⟩⟩⟩)
  have x1 := st0 hF1
  have e15 : F1 0 15 = -1 := by rw [hF1, st2_s, u1_s]
  refine Wp.of (k := k) [vA 184, vI a, vI b, vI p] rfl rfl rfl (b_X4_tell_0 h1 ?_)
  rw [x1 184 0 (by omega), h17]
  refine ⟨fun hlt => ⟨by omega, by omega, fun A1 hA1 A2 hA2 => ⟨hp.1, hp.2, fun A3 hA3 => ⟨by omega, fun F4 hF4 => ?_⟩⟩⟩, fun hge => b_X10_log_34 ?_⟩
  · have hok : logOk σ a b := by unfold logOk; omega
    have hF' : ∀ a f, a ≠ 0 ∨ f ≠ 15 → a ≠ 184 ∨ f ≠ 0 → F4 a f = F a f := fun a f hx hy => by
      rw [hF4]
      by_cases e : a = 184
      · subst e; rw [st2_s, u1_n (by omega), x1 _ _ (by omega)]
      · rw [st2_n e, x1 _ _ hx]
    have hA' : ∀ z, z < 185 ∨ 187 < z → A3 z = A z := fun z hz => by rw [hA3, hA2, hA1, st2_n (by omega), st2_n (by omega), st2_n (by omega)]
    have e184 : F4 184 0 = σ.1 0 8 + 1 := by rw [hF4, st2_s, u1_s]
    rw [e184]
    refine ⟨by omega, b_X10_log_34 ?_⟩
    rw [show σ.1 0 8 + 1 - 1 = σ.1 0 8 by omega]
    obtain ⟨g0, g8, r1, r2, r3, r4, r5, r6, r7, r8⟩ := putLog_g (σ := σ) (a := a) (b := b) (p := p)
    refine hq F4 A3 hok ?_ ⟨fun f => hF' _ _ (by omega) (by omega), fun z z1 z2 => hA' z (by omega)⟩
    refine cs_upd (hS' hok hp) hB rfl (hC.f rfl (g0 _ (by decide)) (fun a f a1 a2 => hF' a f (by omega) (by omega)) (fun z z1 z2 => hA' z (by omega))) (Or.inl (by rw [hF4, st2_n (by decide)]; exact e15)) (fun a f h => hF' a f (by unfold inQ at h; omega) (by unfold inQ at h; omega)) (fun z hz => ?_) (hA' 188 (by omega)) (fun z hz => ⟨hA' z (by omega), funext fun f => hF' z f (by omega) (by omega)⟩) ?_ ?_ (g0 _ (by decide)) ?_ ?_ ?_ ?_ ?_ ?_
    · by_cases e : 185 ≤ z ∧ z ≤ 187
      · exact Or.inr (Or.inr (Or.inl e))
      · exact Or.inr (Or.inr (Or.inr (hA' z (by omega))))
    · rw [g0 _ (by decide), hF' _ _ (by omega) (by omega)]; exact h8
    · rw [g0 _ (by decide), r1, hA' _ (by omega)]; exact h9
    · rw [g0 _ (by decide), hF' _ _ (by omega) (by omega)]; exact h12
    · rw [g0 _ (by decide), hF' _ _ (by omega) (by omega)]; exact h13
    · rw [g0 _ (by decide), g0 _ (by decide), r2, r3, r4, r5, hF' _ _ (by omega) (by omega), hF' _ _ (by omega) (by omega), hA' 67 (by omega), hA' 68 (by omega), hA' 69 (by omega), hA' 70 (by omega)]; exact ⟨h14, h15, h16⟩
    · rw [g8, r6, r7, r8, e184]
      refine ⟨rfl, fun i i0 i1 => ?_⟩
      rw [hA3, hA2, hA1]
      simp only [ne_eq, Int.add_right_inj, Int.reduceEq, not_false_eq_true, st2_n, st2_s, u1_s, u1_u1]
      by_cases e : i = σ.1 0 8
      · subst e; simp only [u1_s, and_self]
      · rw [u1_n e, u1_n e, u1_n e, u1_n e, u1_n e, u1_n e]; exact h18 i i0 (by omega)
    · rw [g0 _ (by decide), hF' _ _ (by omega) (by omega)]; exact h20
    · rw [g0 _ (by decide), hF' _ _ (by omega) (by omega)]; exact h21
  · refine hq' F1 (by unfold logOk; omega) ?_ ⟨fun f => x1 _ _ (by omega), fun _ _ _ => rfl⟩
    obtain ⟨g1, g2, g3⟩ := f0_qf hB hC (fun a f hx => x1 a f (by omega))
    exact ⟨hS, g1, g2, Or.inl e15, fun z hz => ⟨rfl, funext fun f => x1 z f (by omega)⟩⟩
