/-! THE SMALL CALLS -/
theorem shR_cong {σ σ' : Sg} (h2 : σ'.2 = σ.2) (h01 : σ'.1 0 1 = σ.1 0 1) (h02 : σ'.1 0 2 = σ.1 0 2) (h08 : σ'.1 0 8 = σ.1 0 8) (h6 : σ'.1 6 = σ.1 6) (h7 : σ'.1 7 = σ.1 7) (h8 : σ'.1 8 = σ.1 8) (i : Nat) : ∀ n, shR σ' i n = shR σ i n := by
  have e1 : ∀ T, rtS σ' T = rtS σ T := fun T => by unfold rtS; rw [h02, h08, h6, h7, h8]
  have e2 : ∀ jn lr lg w, thG σ' i jn lr lg w = thG σ i jn lr lg w := fun jn lr lg w => by
    funext t; unfold thG zzG; rw [h2, h01]
  have e3 : th σ' i = th σ i := by funext t; unfold th zz; rw [h2, h01]
  have e4 : ∀ r w, rwS σ' i r w = rwS σ i r w := fun r w => by unfold rwS; rw [e1, e2, h2]
  have e5 : ∀ r s b, shS σ' i r s b = shS σ i r s b := fun r s b => by unfold shS; rw [e4, h2]
  have e6 : ∀ r n b, shL σ' i r n b = shL σ i r n b := by
    intro r n
    induction n with
    | zero => intro b; rfl
    | succ n ih => intro b; show shS σ' i r _ (shL σ' i r n b) = shS σ i r _ (shL σ i r n b); rw [e5, ih]
  intro n
  induction n with
  | zero => show (rtS σ' (th σ' i), (-1 : Int), (-1 : Int)) = _; rw [e1, e3]; rfl
  | succ n ih => show shL σ' i n 60 (shR σ' i n) = shL σ i n 60 (shR σ i n); rw [e6, ih]
theorem ShI.of {σ σ' : Sg} {F F' : Fn2} (h : ShI σ F) (hF : ∀ f, 15 ≤ f → f ≤ 18 → F' 0 f = F 0 f) (h2 : σ'.2 = σ.2) (h01 : σ'.1 0 1 = σ.1 0 1) (h02 : σ'.1 0 2 = σ.1 0 2) (h08 : σ'.1 0 8 = σ.1 0 8) (h6 : σ'.1 6 = σ.1 6) (h7 : σ'.1 7 = σ.1 7) (h8 : σ'.1 8 = σ.1 8) : ShI σ' F' := by
  rcases h with h | ⟨i, i1, i2, i3, i4, i5⟩
  · exact Or.inl (by rw [hF _ (by omega) (by omega)]; exact h)
  · refine Or.inr ⟨i, i1, by rw [hF _ (by omega) (by omega)]; exact i2, ?_, ?_, ?_⟩
    · rw [hF _ (by omega) (by omega), shR_cong h2 h01 h02 h08 h6 h7 h8, h2]; exact i3
    · rw [hF _ (by omega) (by omega), shR_cong h2 h01 h02 h08 h6 h7 h8, h2]; exact i4
    · rw [hF _ (by omega) (by omega), shR_cong h2 h01 h02 h08 h6 h7 h8, h2]; exact i5
theorem ShI.kf {σ : Sg} {F A F' A' : Fn2} (h : ShI σ F) (x : KF F A F' A') : ShI σ F' := h.of (fun f _ _ => x.1 f) rfl rfl rfl rfl rfl rfl rfl
/-- courses of another state with the same springs, laws and cold -/
theorem CC.s {σ σ' : Sg} {q : Int → Int} {l : Int} {F A R : Fn2} (h : CC σ q l F A R) (h2 : σ'.2 = σ.2) (h01 : σ'.1 0 1 = σ.1 0 1) : CC σ' q l F A R := by
  intro i hi
  have := h i hi
  rw [h01, h2]; exact this
/-- behind a call that changes the state -/
def CS (σ' : Sg) (q : Int → Int) (l : Int) (F A F' A' R' : Fn2) : Prop := SgI σ' ∧ CB σ' q l F' A' R' ∧ CC σ' q l F' A' R' ∧ ShI σ' F' ∧ (∀ a, 373 ≤ a → A' a = A a ∧ F' a = F a)
def put0 (σ : Sg) (i v : Int) : Sg := (st2 σ.1 0 i v, σ.2)
theorem cs_upd {σ σ' : Sg} {q : Int → Int} {l : Int} {F A R F' A' : Fn2} (hS' : SgI σ') (hB : CB σ q l F A R) (e2 : σ'.2 = σ.2) (hC' : CC σ' q l F' A' R) (hI' : ShI σ' F') (hF : ∀ a f, inQ a ∨ a = 17 ∨ a = 22 → F' a f = F a f) (hA : ∀ a, isB a → a = 1 ∨ 67 ≤ a ∧ a ≤ 70 ∨ 185 ≤ a ∧ a ≤ 187 ∨ A' a = A a) (h188 : A' 188 = A 188) (h373 : ∀ a, 373 ≤ a → A' a = A a ∧ F' a = F a)
    (k1 : F' 0 1 = σ'.1 0 0) (k2 : ∀ k, 0 ≤ k → k < σ'.1 0 0 → A' 1 k = σ'.1 1 k) (k3 : σ'.1 0 5 = σ.1 0 5) (k4 : F' 0 7 = σ'.1 0 1) (k5 : F' 0 8 = σ'.1 0 2)
    (k6 : F' 66 0 = σ'.1 0 7 ∧ F' 66 1 = σ'.1 0 6 ∧ ∀ i, 0 ≤ i → i < σ'.1 0 6 → A' 67 i = σ'.1 2 i ∧ A' 68 i = σ'.1 3 i ∧ A' 69 i = σ'.1 4 i ∧ A' 70 i = σ'.1 5 i)
    (k7 : F' 184 0 = σ'.1 0 8 ∧ ∀ i, 0 ≤ i → i < σ'.1 0 8 → A' 185 i = σ'.1 6 i ∧ A' 186 i = σ'.1 7 i ∧ A' 187 i = σ'.1 8 i) (k8 : F' 2 7 = σ'.1 0 3) (k9 : F' 2 8 = σ'.1 0 4) : CS σ' q l F A F' A' R := by
  obtain ⟨h1, h2, h3, h4, h5, h6, h7, h8, h9, h10, h11, h12, h13, ⟨h14, h15, h16⟩, ⟨h17, h18, h19⟩, h20, h21⟩ := hB
  have hl := h3
  unfold lawD at hl
  refine ⟨hS', ⟨h1, h2, h3, h4, h5, h6, fun i hi => ?_, k1, k2, ?_, ?_, k4, k5, k6, ⟨k7.1, k7.2, by rw [h188]; exact h19⟩, k8, k9⟩, hC', hI', h373⟩
  · obtain ⟨c1, c2, c3, c4⟩ := h7 i hi
    have hqi := h2.1 i (by omega) (by omega)
    rw [e2]
    refine ⟨c1, fun j a b => ?_, by rw [hF _ _ (Or.inl hqi)]; exact c3, by rw [hF _ _ (Or.inl hqi)]; exact c4⟩
    unfold inQ at hqi
    rcases hA (q i + j) (by unfold isB; omega) with h | h | h | h
    · omega
    · omega
    · omega
    · rw [h]; exact c2 j a b
  · rw [e2]
    have z : ∀ c, 1 ≤ c → c ≤ 3 → A' (l + c) = A (l + c) := fun c a b => by
      rcases hA (l + c) (by unfold isB; omega) with h | h | h | h
      · omega
      · omega
      · omega
      · exact h
    exact h10.of (z 1 (by omega) (by omega)) (z 2 (by omega) (by omega)) (z 3 (by omega) (by omega))
  · rw [k3, hF _ _ (by omega)]; exact h11
/-- courses stand while other cells change -/
theorem CC.f {σ σ' : Sg} {q : Int → Int} {l : Int} {F A R F' A' : Fn2} (h : CC σ q l F A R) (h2 : σ'.2 = σ.2) (h01 : σ'.1 0 1 = σ.1 0 1) (hF : ∀ a f, 189 ≤ a → a ≤ 372 → F' a f = F a f) (hA : ∀ a, 220 ≤ a → a ≤ 372 → A' a = A a) : CC σ' q l F' A' R := by
  refine (h.of (fun a h1 _ _ _ h5 => hA a h1 h5) (fun i hi => ?_)).s h2 h01
  unfold crs
  exact ⟨hF _ _ (by omega) (by omega), fun f => ⟨hF _ _ (by omega) (by omega), rfl⟩⟩
theorem st0 {F F' : Fn2} {i v : Int} (h : F' = st2 F 0 i v) : ∀ a f, a ≠ 0 ∨ f ≠ i → F' a f = F a f := fun a f hx => by
  rw [h]
  by_cases e : a = 0
  · subst e; rw [st2_s, u1_n (by omega)]
  · rw [st2_n e]
theorem c_end {X : Int × (Int → Int)} {k : Nat} {Q : Vv → Fn2 → Fn2 → Fn2 → Prop} {F A R : Fn2} {σ : Sg} {q : Int → Int} {l n : Int} (hS : SgI σ) (hB : CB σ q l F A R) (hC : CC σ q l F A R) (hI : ShI σ F) (hq : ∀ F', (0 ≤ n ∧ n ≤ σ.1 0 0 → CS (put0 σ 0 n) q l F A F' A R) → (¬ (0 ≤ n ∧ n ≤ σ.1 0 0) → F' = F) → KG F A F' A → Q (vI (if 0 ≤ n ∧ n ≤ σ.1 0 0 then n else -1)) F' A R) : Wp X (k + 1) m_X10_end [vA 0, vI n] F A R Q := by
  have h8 := hB.2.2.2.2.2.2.2.1
  refine Wp.of [vA 0, vI n] rfl rfl rfl (b_X10_end_0 ?_)
  rw [h8]
  have no : ¬ (0 ≤ n ∧ n ≤ σ.1 0 0) → Q (vI (-1)) F A R := fun h => by
    have := hq F (fun h' => absurd h' h) (fun _ => rfl) ⟨fun _ => rfl, fun _ _ _ => rfl⟩
    rwa [if_neg h] at this
  refine ⟨fun h => no (by omega), fun h0 => ⟨fun h1 F1 hF1 => ?_, fun h => no (by omega)⟩⟩
  have hy : 0 ≤ n ∧ n ≤ σ.1 0 0 := by omega
  have hF' := st0 hF1
  have := hq F1 (fun _ => ?_) (fun h => absurd hy h) ⟨fun f => hF' _ _ (by omega), fun _ _ _ => rfl⟩
  · rwa [if_pos hy] at this
  · obtain ⟨s1, s2, s3, s4, s5, s6, s7, s8, s9⟩ := hS
    obtain ⟨h1, h2, h3, h4, h5, h6, h7, h8, h9, h10, h11, h12, h13, h14, ⟨h17, h18, h19⟩, h20, h21⟩ := id hB
    refine cs_upd ?_ hB rfl (hC.f rfl (by simp only [put0, ne_eq, Int.add_right_inj, Int.reduceEq, not_false_eq_true, st2_n, st2_s, u1_s, u1_n, u1_u1]) (fun a f a1 a2 => hF' a f (by omega)) (fun _ _ _ => rfl)) (hI.of (fun f h1 h2 => hF' _ _ (by omega)) rfl (by simp only [put0, ne_eq, Int.add_right_inj, Int.reduceEq, not_false_eq_true, st2_n, st2_s, u1_s, u1_n, u1_u1]) (by simp only [put0, ne_eq, Int.add_right_inj, Int.reduceEq, not_false_eq_true, st2_n, st2_s, u1_s, u1_n, u1_u1]) (by simp only [put0, ne_eq, Int.add_right_inj, Int.reduceEq, not_false_eq_true, st2_n, st2_s, u1_s, u1_n, u1_u1]) (by simp only [put0, ne_eq, Int.add_right_inj, Int.reduceEq, not_false_eq_true, st2_n, st2_s, u1_s, u1_n, u1_u1]) (by simp only [put0, ne_eq, Int.add_right_inj, Int.reduceEq, not_false_eq_true, st2_n, st2_s, u1_s, u1_n, u1_u1]) (by simp only [put0, ne_eq, Int.add_right_inj, Int.reduceEq, not_false_eq_true, st2_n, st2_s, u1_s, u1_n, u1_u1])) (fun a f h => hF' a f (by unfold inQ at h; omega)) (fun _ _ => Or.inr (Or.inr (Or.inr rfl))) rfl (fun a ha => ⟨rfl, funext fun f => hF' a f (by omega)⟩) ?_ ?_ ?_ ?_ ?_ ?_ ?_ ?_ ?_
    · refine ⟨?_, ?_, ?_, ?_, ?_, ?_, s7, ?_, ?_⟩ <;> simp only [put0, ne_eq, Int.add_right_inj, Int.reduceEq, not_false_eq_true, st2_n, st2_s, u1_s, u1_n, u1_u1] <;> first | assumption | skip
      · omega
      · exact fun k a b => s8 k a (by omega)
    all_goals (simp only [put0, ne_eq, Int.add_right_inj, Int.reduceEq, not_false_eq_true, st2_n, st2_s, u1_s, u1_n, u1_u1])
    · rw [hF1, st2_s, u1_s]
    · exact fun k a b => h9 k a (by omega)
    · rw [hF' _ _ (by omega)]; exact h12
    · rw [hF' _ _ (by omega)]; exact h13
    · rw [hF' _ _ (by omega), hF' _ _ (by omega)]; exact h14
    · rw [hF' _ _ (by omega)]; exact ⟨h17, h18⟩
    · rw [hF' _ _ (by omega)]; exact h20
    · rw [hF' _ _ (by omega)]; exact h21
/-- as b_X10_about_0, but the springs are asked for where there is one only -/
theorem b_about {X : Int × (Int → Int)} {k : Nat} {Q : Vv → Fn2 → Fn2 → Fn2 → Prop} {F A R : Fn2} {x1 q0 q1 : Int} (hR : RS R) (e0 : R (189 + 46 * (x1 - 4)) 0 = q0) (te0 : 0 ≤ x1 - 4 → x1 - 4 < 4 → At_Spring q0) (e1 : R (189 + 46 * x1) 0 = q1) (te1 : 0 ≤ x1 → x1 < 4 → At_Spring q1) (h : (x1 < 0 → ((x1 < 4 → G X k m_X10_about Q 48 [vA 0, vI x1] [] F A R) ∧ (¬ (x1 < 4) → ((¬ x1 < 8 → G X k m_X10_about Q 48 [vA 0, vI x1] [] F A R) ∧ (x1 < 8 → ((-2147483648 ≤ x1 - 4 ∧ x1 - 4 ≤ 2147483647) ∧ 0 ≤ x1 - 4 ∧ x1 - 4 < 4 ∧ Q (vI (F q0 1)) F A R)))))) ∧ (¬ (x1 < 0) → ((¬ x1 < 4 → ((x1 < 4 → G X k m_X10_about Q 48 [vA 0, vI x1] [] F A R) ∧ (¬ (x1 < 4) → ((¬ x1 < 8 → G X k m_X10_about Q 48 [vA 0, vI x1] [] F A R) ∧ (x1 < 8 → ((-2147483648 ≤ x1 - 4 ∧ x1 - 4 ≤ 2147483647) ∧ 0 ≤ x1 - 4 ∧ x1 - 4 < 4 ∧ Q (vI (F q0 1)) F A R)))))) ∧ (x1 < 4 → (0 ≤ x1 ∧ x1 < 4 ∧ Q (vI (F q1 0)) F A R))))) : G X k m_X10_about Q 0 [vA 0, vI x1] [] F A R :=
  Blk.run (En_mono _) (e := 4) [(2, 1, 0, 0, 0, []), (63, 2, 22, 0, 0, [])] 0 (by decide +kernel) (⟨fun z9 => Blk.run (En_mono _) (e := 27) [(2, 1, 0, 0, 0, []), (0, 0, 0, 0, 4, []), (64, 2, 48, 0, 0, [])] 22 (by decide +kernel) (⟨fun z3 => ((h.1 z9).1 z3), fun z3 => Blk.run (En_mono _) (e := 33) [(2, 1, 0, 0, 0, []), (0, 0, 1, 0, 8, []), (64, 3, 48, 0, 0, [])] 27 (by decide +kernel) (⟨fun z2 => (((h.1 z9).2 z3).1 z2), fun z2 => Blk.run (En_mono _) (e := 48) [(2, 0, 2, 0, 0, []), (36, 20, 0, 3, 0, []), (2, 1, 0, 0, 0, []), (0, 0, 0, 0, 4, []), (7, 0, 0, 0, 0, []), (51, 4, 0, 0, 0, []), (36, 11, 0, 0, 0, []), (35, 17, 0, 1, 0, []), (72, 0, 0, 0, 0, [])] 33 (by decide +kernel) (⟨yk_0, _, (rr_0_3 hR), ⟨(((h.1 z9).2 z3).2 (Decidable.not_not.mp z2)).1, ⟨yk_4, (((h.1 z9).2 z3).2 (Decidable.not_not.mp z2)).2.1, lt_ln yn_4 (((h.1 z9).2 z3).2 (Decidable.not_not.mp z2)).2.2.1, _, (hR.2.1 _ (((h.1 z9).2 z3).2 (Decidable.not_not.mp z2)).2.1 (((h.1 z9).2 z3).2 (Decidable.not_not.mp z2)).2.2.1), ⟨(ly_Course (crs_4 (((h.1 z9).2 z3).2 (Decidable.not_not.mp z2)).2.1 (((h.1 z9).2 z3).2 (Decidable.not_not.mp z2)).2.2.1)), _, e0, ⟨(ly_Spring (te0 (((h.1 z9).2 z3).2 (Decidable.not_not.mp z2)).2.1 (((h.1 z9).2 z3).2 (Decidable.not_not.mp z2)).2.2.1)), ⟨(Nat.le_add_right _ _), (Nat.le_add_right _ _), retY (zc_all _ (by decide) (by decide +kernel)), (((h.1 z9).2 z3).2 (Decidable.not_not.mp z2)).2.2.2⟩⟩⟩⟩⟩⟩)⟩)⟩), fun z9 => Blk.run (En_mono _) (e := 9) [(2, 1, 0, 0, 0, []), (0, 0, 0, 0, 4, []), (64, 3, 22, 0, 0, [])] 4 (by decide +kernel) (⟨fun z8 => Blk.run (En_mono _) (e := 27) [(2, 1, 0, 0, 0, []), (0, 0, 0, 0, 4, []), (64, 2, 48, 0, 0, [])] 22 (by decide +kernel) (⟨fun z6 => (((h.2 z9).1 z8).1 z6), fun z6 => Blk.run (En_mono _) (e := 33) [(2, 1, 0, 0, 0, []), (0, 0, 1, 0, 8, []), (64, 3, 48, 0, 0, [])] 27 (by decide +kernel) (⟨fun z5 => ((((h.2 z9).1 z8).2 z6).1 z5), fun z5 => Blk.run (En_mono _) (e := 48) [(2, 0, 2, 0, 0, []), (36, 20, 0, 3, 0, []), (2, 1, 0, 0, 0, []), (0, 0, 0, 0, 4, []), (7, 0, 0, 0, 0, []), (51, 4, 0, 0, 0, []), (36, 11, 0, 0, 0, []), (35, 17, 0, 1, 0, []), (72, 0, 0, 0, 0, [])] 33 (by decide +kernel) (⟨yk_0, _, (rr_0_3 hR), ⟨((((h.2 z9).1 z8).2 z6).2 (Decidable.not_not.mp z5)).1, ⟨yk_4, ((((h.2 z9).1 z8).2 z6).2 (Decidable.not_not.mp z5)).2.1, lt_ln yn_4 ((((h.2 z9).1 z8).2 z6).2 (Decidable.not_not.mp z5)).2.2.1, _, (hR.2.1 _ ((((h.2 z9).1 z8).2 z6).2 (Decidable.not_not.mp z5)).2.1 ((((h.2 z9).1 z8).2 z6).2 (Decidable.not_not.mp z5)).2.2.1), ⟨(ly_Course (crs_4 ((((h.2 z9).1 z8).2 z6).2 (Decidable.not_not.mp z5)).2.1 ((((h.2 z9).1 z8).2 z6).2 (Decidable.not_not.mp z5)).2.2.1)), _, e0, ⟨(ly_Spring (te0 ((((h.2 z9).1 z8).2 z6).2 (Decidable.not_not.mp z5)).2.1 ((((h.2 z9).1 z8).2 z6).2 (Decidable.not_not.mp z5)).2.2.1)), ⟨(Nat.le_add_right _ _), (Nat.le_add_right _ _), retY (zc_all _ (by decide) (by decide +kernel)), ((((h.2 z9).1 z8).2 z6).2 (Decidable.not_not.mp z5)).2.2.2⟩⟩⟩⟩⟩⟩)⟩)⟩), fun z8 => Blk.run (En_mono _) (e := 22) [(2, 0, 2, 0, 0, []), (36, 20, 0, 3, 0, []), (2, 1, 0, 0, 0, []), (51, 4, 0, 0, 0, []), (36, 11, 0, 0, 0, []), (35, 17, 0, 0, 0, []), (72, 0, 0, 0, 0, [])] 9 (by decide +kernel) (⟨yk_0, _, (rr_0_3 hR), ⟨yk_4, ((h.2 z9).2 (Decidable.not_not.mp z8)).1, lt_ln yn_4 ((h.2 z9).2 (Decidable.not_not.mp z8)).2.1, _, (hR.2.1 _ ((h.2 z9).2 (Decidable.not_not.mp z8)).1 ((h.2 z9).2 (Decidable.not_not.mp z8)).2.1), ⟨(ly_Course (crs_4 ((h.2 z9).2 (Decidable.not_not.mp z8)).1 ((h.2 z9).2 (Decidable.not_not.mp z8)).2.1)), _, e1, ⟨(ly_Spring (te1 ((h.2 z9).2 (Decidable.not_not.mp z8)).1 ((h.2 z9).2 (Decidable.not_not.mp z8)).2.1)), ⟨(Nat.le_add_right _ _), (Nat.le_add_right _ _), retY (zc_all _ (by decide) (by decide +kernel)), ((h.2 z9).2 (Decidable.not_not.mp z8)).2.2⟩⟩⟩⟩⟩)⟩)⟩)
