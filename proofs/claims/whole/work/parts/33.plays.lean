/-! PLAYS AND LOGS, both sides: T t is what second t throws -/
def psA (t : Int) (p : Fn2) : Fn2 := if p 3 0 < 200 then st2 (st2 (st2 (st2 p 0 (p 3 0) t) 1 (p 3 0) 0) 2 (p 3 0) 0) 3 0 (p 3 0 + 1) else st2 p 3 0 (p 3 0 + 1)
def psB (T : Int) (p : Fn2) : Fn2 := st2 (if p 3 0 ≤ 200 then st2 (st2 p 1 (p 3 0 - 1) (p 1 (p 3 0 - 1) + 1)) 2 (p 3 0 - 1) (max (p 2 (p 3 0 - 1)) T) else p) 3 1 1
def psS (hi T t : Int) (p : Fn2) : Fn2 := if hi ≤ T then psB T (if p 3 1 = 0 then psA t p else p) else st2 p 3 1 0
def psN (hi : Int) (T : Nat → Int) : Nat → Fn2
  | 0 => fun _ _ => 0
  | n + 1 => psS hi (T (n + 1)) (n + 1) (psN hi T n)
/-- how many plays have begun -/
def cnN (hi : Int) (T : Nat → Int) (n : Nat) : Int := psN hi T n 3 0
def PlI (t : Int) (p : Fn2) : Prop := 0 ≤ p 3 0 ∧ p 3 0 ≤ t ∧ (p 3 1 = 0 ∨ p 3 1 = 1 ∧ 1 ≤ p 3 0) ∧ ∀ i, 0 ≤ i → i < min (p 3 0) 200 → 0 ≤ p 1 i ∧ p 1 i ≤ t ∧ 1 ≤ p 0 i ∧ p 0 i ≤ t ∧ 0 ≤ p 2 i
theorem psB_3 {T : Int} {p : Fn2} : psB T p 3 0 = p 3 0 ∧ psB T p 3 1 = 1 ∧ psB T p 0 = p 0 := by
  unfold psB
  refine ⟨?_, ?_, ?_⟩
  · simp only [st2_s, u1_n (show (0 : Int) ≠ 1 by decide)]
    split
    · simp only [ne_eq, Int.add_right_inj, Int.reduceEq, not_false_eq_true, st2_n, st2_s, u1_s, u1_u1]
    · rfl
  · simp only [ne_eq, Int.add_right_inj, Int.reduceEq, not_false_eq_true, st2_n, st2_s, u1_s, u1_u1]
  · simp only [ne_eq, Int.add_right_inj, Int.reduceEq, not_false_eq_true, st2_n, st2_s, u1_s, u1_u1]
    split
    · simp only [ne_eq, Int.add_right_inj, Int.reduceEq, not_false_eq_true, st2_n, st2_s, u1_s, u1_u1]
    · rfl
theorem psA_3 {t : Int} {p : Fn2} : psA t p 3 0 = p 3 0 + 1 ∧ psA t p 3 1 = p 3 1 ∧ (p 3 0 < 200 → psA t p 0 = u1 (p 0) (p 3 0) t ∧ psA t p 1 = u1 (p 1) (p 3 0) 0 ∧ psA t p 2 = u1 (p 2) (p 3 0) 0) ∧ (¬ p 3 0 < 200 → psA t p 0 = p 0 ∧ psA t p 1 = p 1 ∧ psA t p 2 = p 2) := by
  unfold psA
  refine ⟨?_, ?_, fun h => ?_, fun h => ?_⟩
  · split <;> simp only [ne_eq, Int.add_right_inj, Int.reduceEq, not_false_eq_true, st2_n, st2_s, u1_s, u1_u1]
  · split <;> simp only [ne_eq, Int.add_right_inj, Int.reduceEq, not_false_eq_true, st2_n, st2_s, u1_s, u1_u1, u1_n]
  · rw [if_pos h]; simp only [ne_eq, Int.add_right_inj, Int.reduceEq, not_false_eq_true, st2_n, st2_s, u1_s, u1_u1, and_self]
  · rw [if_neg h]; simp only [ne_eq, Int.add_right_inj, Int.reduceEq, not_false_eq_true, st2_n, st2_s, u1_s, u1_u1, and_self]
theorem psB_r {T : Int} {p : Fn2} : (p 3 0 ≤ 200 → psB T p 1 = u1 (p 1) (p 3 0 - 1) (p 1 (p 3 0 - 1) + 1) ∧ psB T p 2 = u1 (p 2) (p 3 0 - 1) (max (p 2 (p 3 0 - 1)) T)) ∧ (¬ p 3 0 ≤ 200 → psB T p 1 = p 1 ∧ psB T p 2 = p 2) := by
  unfold psB
  refine ⟨fun h => ?_, fun h => ?_⟩
  · rw [if_pos h]; simp only [ne_eq, Int.add_right_inj, Int.reduceEq, not_false_eq_true, st2_n, st2_s, u1_s, u1_u1, and_self]
  · rw [if_neg h]; simp only [ne_eq, Int.add_right_inj, Int.reduceEq, not_false_eq_true, st2_n, st2_s, u1_s, u1_u1, and_self]
theorem PlI.psA {t : Int} {p : Fn2} (h : PlI t p) (ht : 0 ≤ t) : PlI (t + 1) (psA (t + 1) p) := by
  obtain ⟨a1, a2, a3, a4⟩ := h
  obtain ⟨b1, b2, b3, b4⟩ := psA_3 (t := t + 1) (p := p)
  refine ⟨by omega, by omega, by omega, fun i h0 hi => ?_⟩
  rw [b1] at hi
  by_cases hc : p 3 0 < 200
  · obtain ⟨c1, c2, c3⟩ := b3 hc
    rw [c1, c2, c3]
    by_cases e : i = p 3 0
    · subst e; simp only [u1_s]; omega
    · rw [u1_n e, u1_n e, u1_n e]
      have := a4 i h0 (by omega)
      omega
  · obtain ⟨c1, c2, c3⟩ := b4 hc
    rw [c1, c2, c3]
    have := a4 i h0 (by omega)
    omega
theorem PlI.psB {t T : Int} {p : Fn2} (h : PlI (t + 1) p) (h1 : 1 ≤ p 3 0) (hl : ∀ i, 0 ≤ i → i < min (p 3 0) 200 → p 1 i ≤ t) : PlI (t + 1) (psB T p) := by
  obtain ⟨a1, a2, a3, a4⟩ := h
  obtain ⟨b1, b2, b3⟩ := psB_3 (T := T) (p := p)
  obtain ⟨c1, c2⟩ := psB_r (T := T) (p := p)
  refine ⟨by omega, by omega, by omega, fun i h0 hi => ?_⟩
  rw [b1] at hi
  have a5 := a4 i h0 hi
  have a6 := hl i h0 hi
  rw [b3]
  by_cases hc : p 3 0 ≤ 200
  · obtain ⟨d1, d2⟩ := c1 hc
    rw [d1, d2]
    by_cases e : i = p 3 0 - 1
    · subst e; simp only [u1_s]; omega
    · rw [u1_n e, u1_n e]; omega
  · obtain ⟨d1, d2⟩ := c2 hc
    rw [d1, d2]; omega
theorem PlI.st {t v : Int} {p : Fn2} (h : PlI t p) (hv : v = 0) : PlI (t + 1) (st2 p 3 1 v) := by
  subst hv
  obtain ⟨a1, a2, a3, a4⟩ := h
  refine ⟨?_, ?_, ?_, fun i h0 hi => ?_⟩
  · simp only [ne_eq, Int.add_right_inj, Int.reduceEq, not_false_eq_true, st2_n, st2_s, u1_s, u1_u1, u1_n]; exact a1
  · simp only [ne_eq, Int.add_right_inj, Int.reduceEq, not_false_eq_true, st2_n, st2_s, u1_s, u1_u1, u1_n]; omega
  · simp only [ne_eq, Int.add_right_inj, Int.reduceEq, not_false_eq_true, st2_n, st2_s, u1_s, u1_u1]; exact Or.inl trivial
  · simp only [ne_eq, Int.add_right_inj, Int.reduceEq, not_false_eq_true, st2_n, st2_s, u1_s, u1_u1, u1_n] at hi ⊢
    have := a4 i h0 hi
    omega
theorem plI_psS {t hi T : Int} {p : Fn2} (h : PlI t p) (ht : 0 ≤ t) : PlI (t + 1) (psS hi T (t + 1) p) := by
  unfold psS
  by_cases hT : hi ≤ T
  · rw [if_pos hT]
    by_cases hg : p 3 1 = 0
    · rw [if_pos hg]
      have := h.psA ht
      obtain ⟨b1, b2, b3, b4⟩ := psA_3 (t := t + 1) (p := p)
      refine this.psB (by have := h.1; omega) fun i h0 hi => ?_
      rw [b1] at hi
      by_cases hc : p 3 0 < 200
      · rw [(b3 hc).2.1]
        by_cases e : i = p 3 0
        · subst e; rw [u1_s]; exact ht
        · rw [u1_n e]; exact (h.2.2.2 i h0 (by omega)).2.1
      · rw [(b4 hc).2.1]; exact (h.2.2.2 i h0 (by omega)).2.1
    · rw [if_neg hg]
      have h' : PlI (t + 1) p := ⟨h.1, by have := h.2.1; omega, h.2.2.1, fun i h0 hi => by have := h.2.2.2 i h0 hi; omega⟩
      refine h'.psB (by have := h.2.2.1; omega) fun i h0 hi => (h.2.2.2 i h0 hi).2.1
  · rw [if_neg hT]
    exact h.st rfl
theorem plI {hi : Int} {T : Nat → Int} : ∀ n : Nat, PlI n (psN hi T n)
  | 0 => ⟨by simp [psN], by simp [psN], Or.inl rfl, fun i h0 hi => by simp [psN] at hi; omega⟩
  | n + 1 => plI_psS (plI n) (by omega)
/-- once more than 200 have begun, nothing changes any more in the first 200 -/
theorem ps_froz {hi T t : Int} {p : Fn2} (h : 201 ≤ p 3 0) : 201 ≤ psS hi T t p 3 0 ∧ psS hi T t p 0 = p 0 ∧ psS hi T t p 1 = p 1 ∧ psS hi T t p 2 = p 2 := by
  unfold psS
  by_cases hT : hi ≤ T
  · rw [if_pos hT]
    obtain ⟨b1, b2, b3, b4⟩ := psA_3 (t := t) (p := p)
    obtain ⟨c1, c2, c3⟩ := b4 (by omega)
    by_cases hg : p 3 1 = 0
    · rw [if_pos hg]
      obtain ⟨d1, d2, d3⟩ := psB_3 (T := T) (p := psA t p)
      obtain ⟨e1, e2⟩ := (psB_r (T := T) (p := psA t p)).2 (by omega)
      rw [d1, d3, e1, e2, b1, c1, c2, c3]
      exact ⟨by omega, rfl, rfl, rfl⟩
    · rw [if_neg hg]
      obtain ⟨d1, d2, d3⟩ := psB_3 (T := T) (p := p)
      obtain ⟨e1, e2⟩ := (psB_r (T := T) (p := p)).2 (by omega)
      rw [d1, d3, e1, e2]
      exact ⟨by omega, rfl, rfl, rfl⟩
  · rw [if_neg hT]
    simp only [ne_eq, Int.add_right_inj, Int.reduceEq, not_false_eq_true, st2_n, st2_s, u1_s, u1_u1, u1_n, and_self, and_true]; exact h
theorem psN_froz {hi : Int} {T : Nat → Int} {n : Nat} (h : 201 ≤ psN hi T n 3 0) : ∀ m : Nat, 201 ≤ psN hi T (n + m) 3 0 ∧ psN hi T (n + m) 0 = psN hi T n 0 ∧ psN hi T (n + m) 1 = psN hi T n 1 ∧ psN hi T (n + m) 2 = psN hi T n 2
  | 0 => ⟨h, rfl, rfl, rfl⟩
  | m + 1 => by
    obtain ⟨a, b, c, d⟩ := psN_froz h m
    obtain ⟨a', b', c', d'⟩ := ps_froz (hi := hi) (T := T (n + m + 1)) (t := ((n + m : Nat) : Int) + 1) a
    exact ⟨a', b'.trans b, c'.trans c, d'.trans d⟩
/-- the rows at a, b, c hold the plays -/
def PlR (a b c : Int) (p A : Fn2) : Prop := ∀ i, 0 ≤ i → i < min (p 3 0) 200 → A a i = p 0 i ∧ A b i = p 1 i ∧ A c i = p 2 i
def PX (o : Int) (F A F' A' : Fn2) : Prop := (∀ a, ¬ (o + 1 ≤ a ∧ a ≤ o + 3) → A' a = A a) ∧ ∀ x f, x ≠ o ∨ f ≠ 3 → F' x f = F x f
theorem PX.refl {o : Int} {F A : Fn2} : PX o F A F A := ⟨fun _ _ => rfl, fun _ _ _ => rfl⟩
theorem PX.trans {o : Int} {F A F1 A1 F2 A2 : Fn2} (h : PX o F A F1 A1) (g : PX o F1 A1 F2 A2) : PX o F A F2 A2 :=
  ⟨fun a h1 => (g.1 a h1).trans (h.1 a h1), fun x f h1 => (g.2 x f h1).trans (h.2 x f h1)⟩
theorem PX.a {o c i v : Int} {F A F1 A1 : Fn2} (h : PX o F A F1 A1) (h1 : 1 ≤ c) (h2 : c ≤ 3) : PX o F A F1 (st2 A1 (o + c) i v) :=
  ⟨fun a h3 => by rw [st2_n (by omega)]; exact h.1 a h3, h.2⟩
theorem PX.f {o v : Int} {F A F1 A1 : Fn2} (h : PX o F A F1 A1) : PX o F A (st2 F1 o 3 v) A1 :=
  ⟨h.1, fun x f h3 => by
    by_cases e : x = o
    · subst e; rw [st2_s, u1_n (by omega)]; exact h.2 x f h3
    · rw [st2_n e]; exact h.2 x f h3⟩
theorem w_rowL {X : Int × (Int → Int)} {k : Nat} {Q : Vv → Fn2 → Fn2 → Fn2 → Prop} {R : Fn2} {o x hi : Int} {N : Nat} {T : Nat → Int} {F0 A0 : Fn2} (hR : RS R) (ho : At_Plays o) (hk : Y1.1 x = 0) (hl : Y1.2.1 x = 1001) (hx : x < o + 1 ∨ o + 3 < x) (hN : N ≤ 1000) (hT : ∀ s : Nat, 1 ≤ s → s ≤ N → A0 x s = T s) (hT0 : ∀ s : Nat, 1 ≤ s → s ≤ N → T s ≤ 1000000)
    (hq : ∀ F' A', PX o F0 A0 F' A' → F' o 3 = min (cnN hi T N) 200 → PlR (o + 1) (o + 2) (o + 3) (psN hi T N) A' → Q vN F' A' R) : ∀ (m t : Nat) (F A : Fn2) (w6 : Vv), t + m = N → PX o F0 A0 F A → F o 3 = psN hi T t 3 0 → psN hi T t 3 0 ≤ 200 → PlR (o + 1) (o + 2) (o + 3) (psN hi T t) A → G X k m_X5_readRow Q 11 [vA o, vA x, vI N, vI hi, vI (psN hi T t 3 1), vI (t + 1), w6] [] F A R
  | 0, t, F, A, w6, hm, hX, h3, h200, hpr => by
    have e : t = N := by omega
    subst e
    refine b_X5_readRow_11 hR ho hk hl ⟨fun _ => hq F A hX ?_ hpr, fun hx => by omega⟩
    unfold cnN; omega
  | m + 1, t, F, A, w6, hm, hX, h3, h200, hpr => by
    obtain ⟨i1, i2, i3, i4⟩ := plI (hi := hi) (T := T) t
    have hA : A x ((t : Int) + 1) = T (t + 1) := by rw [hX.1 x (by omega)]; exact hT (t + 1) (by omega) (by omega)
    have hT1 := hT0 (t + 1) (by omega) (by omega)
    have unf : psN hi T (t + 1) = psS hi (T (t + 1)) ((t : Int) + 1) (psN hi T t) := rfl
    -- behind what a second that plays has begun
    have plays : ∀ F1 A1 p1, PX o F0 A0 F1 A1 → p1 = (if psN hi T t 3 1 = 0 then psA ((t : Int) + 1) (psN hi T t) else psN hi T t) → hi ≤ T (t + 1) → p1 3 0 ≤ 200 → 1 ≤ p1 3 0 → F1 o 3 = p1 3 0 → PlR (o + 1) (o + 2) (o + 3) p1 A1 → (∀ i, 0 ≤ i → i < min (p1 3 0) 200 → 0 ≤ p1 1 i ∧ p1 1 i ≤ t) → G X k m_X5_readRow Q 94 [vA o, vA x, vI N, vI hi, vI (psN hi T t 3 1), vI (t + 1), vI 1] [] F1 A1 R := by
      intro F1 A1 p1 x1 hp1 hhi hp2 hp3 hF1 hr1 hlen
      have e1 : psN hi T (t + 1) = psB (T (t + 1)) p1 := by rw [unf, hp1]; unfold psS; rw [if_pos hhi]
      obtain ⟨d1, d2, d3⟩ := psB_3 (T := T (t + 1)) (p := p1)
      obtain ⟨g1, g2⟩ := (psB_r (T := T (t + 1)) (p := p1)).1 hp2
      have hlast := hr1 (p1 3 0 - 1) (by omega) (by omega)
      have hlen1 := hlen (p1 3 0 - 1) (by omega) (by omega)
      refine b_X5_readRow_94 hR ho hk hl ⟨fun hz => by omega, fun _ => ⟨fun hz => by omega, fun _ => ?_⟩⟩
      rw [hF1, hlast.2.1]
      refine ⟨by omega, by omega, by omega, by omega, fun A2 hA2 => ⟨by omega, by omega, fun A3 hA3 => ⟨by omega, ?_⟩⟩⟩
      have x3 : PX o F0 A0 F1 A3 := by rw [hA3, hA2]; exact (x1.a (by omega) (by omega)).a (by omega) (by omega)
      have hA2x : A2 x ((t : Int) + 1) = T (t + 1) := by
        rw [hA2, st2_n (by omega), x1.1 x (by omega)]; exact hT (t + 1) (by omega) (by omega)
      have hA23 : A2 (o + 3) (p1 3 0 - 1) = p1 2 (p1 3 0 - 1) := by rw [hA2, st2_n (by omega)]; exact hlast.2.2
      rw [hA2x, hA23] at hA3
      have := w_rowL (X := X) (k := k) (Q := Q) hR ho hk hl hx hN hT hT0 hq m (t + 1) F1 A3 (vI 1) (by omega) x3 (by rw [e1, d1]; exact hF1) (by rw [e1, d1]; exact hp2) (by
        intro i h0 hi2
        rw [e1, d1] at hi2
        rw [e1, d3, g1, g2]
        have hi3 := hr1 i h0 hi2
        rw [hA3, st2_n (by omega), st2_n (by omega), st2_s, hA2, st2_n (by omega), st2_s, st2_n (by omega)]
        by_cases e : i = p1 3 0 - 1
        · subst e; rw [u1_s, u1_s, u1_s, u1_s]; exact ⟨hi3.1, rfl, rfl⟩
        · rw [u1_n e, u1_n e, u1_n e, u1_n e]; exact hi3)
      rw [e1, d2] at this
      exact this
    refine b_X5_readRow_11 hR ho hk hl ⟨fun hz => by omega, fun _ => ⟨by omega, by omega, ?_⟩⟩
    rw [hA]
    refine ⟨fun hlt => ?_, fun hge => ⟨fun hg => ?_, fun hg => ⟨fun hne => ?_, fun heq => ?_⟩⟩⟩
    · have e1 : psN hi T (t + 1) = st2 (psN hi T t) 3 1 0 := by rw [unf]; unfold psS; rw [if_neg (by omega)]
      refine b_X5_readRow_94 hR ho hk hl ⟨fun _ => ⟨by omega, ?_⟩, fun hz => absurd rfl hz⟩
      have := w_rowL (X := X) (k := k) (Q := Q) hR ho hk hl hx hN hT hT0 hq m (t + 1) F A (vI 0) (by omega) hX (by rw [e1]; simp only [ne_eq, Int.add_right_inj, Int.reduceEq, not_false_eq_true, st2_n, st2_s, u1_s, u1_u1, u1_n]; exact h3) (by rw [e1]; simp only [ne_eq, Int.add_right_inj, Int.reduceEq, not_false_eq_true, st2_n, st2_s, u1_s, u1_u1, u1_n]; exact h200) (by
        intro i h0 hi2
        rw [e1] at hi2 ⊢
        simp only [ne_eq, Int.add_right_inj, Int.reduceEq, not_false_eq_true, st2_n, st2_s, u1_s, u1_u1, u1_n] at hi2 ⊢
        exact hpr i h0 hi2)
      rw [e1] at this
      simp only [ne_eq, Int.add_right_inj, Int.reduceEq, not_false_eq_true, st2_n, st2_s, u1_s, u1_u1] at this
      exact this
    · exact plays F A (psN hi T t) hX (by rw [if_neg hg]) (by omega) h200 (by omega) h3 hpr (fun i h0 hi2 => by have := i4 i h0 hi2; omega)
    · -- a play begins
      obtain ⟨b1, b2, b3, b4⟩ := psA_3 (t := (t : Int) + 1) (p := psN hi T t)
      rw [h3] at hne ⊢
      obtain ⟨c1, c2, c3⟩ := b3 (by omega)
      refine ⟨by omega, by omega, fun A1 h1 A2 h2 A3 h3' => ⟨by omega, fun F4 h4 => ?_⟩⟩
      refine plays F4 A3 (psA ((t : Int) + 1) (psN hi T t)) ?_ (by rw [if_pos hg]) (by omega) (by rw [b1]; omega) (by rw [b1]; omega) ?_ ?_ ?_
      · rw [h4, h3', h2, h1]; exact (((hX.a (by omega) (by omega)).a (by omega) (by omega)).a (by omega) (by omega)).f
      · rw [h4, st2_s, u1_s, b1]
      · intro i h0 hi2
        rw [b1] at hi2
        rw [c1, c2, c3, h3', h2, h1]
        simp only [ne_eq, Int.add_right_inj, Int.reduceEq, not_false_eq_true, st2_n, st2_s, u1_s, u1_u1]
        by_cases e : i = psN hi T t 3 0
        · subst e; simp only [u1_s, and_self]
        · rw [u1_n e, u1_n e, u1_n e, u1_n e, u1_n e, u1_n e]; exact hpr i h0 (by omega)
      · intro i h0 hi2
        rw [b1] at hi2
        rw [c2]
        by_cases e : i = psN hi T t 3 0
        · subst e; rw [u1_s]; omega
        · rw [u1_n e]; have := i4 i h0 (by omega); omega
    · -- the 201st: nothing counts any more
      rw [h3] at heq
      obtain ⟨b1, b2, b3, b4⟩ := psA_3 (t := (t : Int) + 1) (p := psN hi T t)
      obtain ⟨c1, c2, c3⟩ := b4 (by omega)
      have e1 : psN hi T (t + 1) = psB (T (t + 1)) (psA ((t : Int) + 1) (psN hi T t)) := by rw [unf]; unfold psS; rw [if_pos (by omega), if_pos hg]
      obtain ⟨d1, d2, d3⟩ := psB_3 (T := T (t + 1)) (p := psA ((t : Int) + 1) (psN hi T t))
      obtain ⟨g1, g2⟩ := (psB_r (T := T (t + 1)) (p := psA ((t : Int) + 1) (psN hi T t))).2 (by omega)
      have h201 : 201 ≤ psN hi T (t + 1) 3 0 := by rw [e1, d1, b1]; omega
      obtain ⟨f1, f2, f3, f4⟩ := psN_froz h201 m
      rw [show t + 1 + m = N by omega] at f1 f2 f3 f4
      refine hq F A hX (by unfold cnN; omega) fun i h0 hi2 => ?_
      rw [f2, f3, f4, e1, d3, g1, g2, c1, c2, c3]
      exact hpr i h0 (by omega)
theorem w_row {X : Int × (Int → Int)} {k : Nat} {Q : Vv → Fn2 → Fn2 → Fn2 → Prop} {F A R : Fn2} {o x hi : Int} {N : Nat} {T : Nat → Int} (hR : RS R) (ho : At_Plays o) (hk : Y1.1 x = 0) (hl : Y1.2.1 x = 1001) (hx : x < o + 1 ∨ o + 3 < x) (hN : N ≤ 1000) (hT : ∀ s : Nat, 1 ≤ s → s ≤ N → A x s = T s) (hT0 : ∀ s : Nat, 1 ≤ s → s ≤ N → T s ≤ 1000000)
    (hq : ∀ F' A', PX o F A F' A' → F' o 3 = min (cnN hi T N) 200 → PlR (o + 1) (o + 2) (o + 3) (psN hi T N) A' → Q vN F' A' R) : Wp X (k + 1) m_X5_readRow [vA o, vA x, vI N, vI hi] F A R Q := by
  refine Wp.of [vA o, vA x, vI N, vI hi, vN, vN, vN] rfl rfl rfl (b_X5_readRow_0 ho hk hl fun F1 hF1 => ?_)
  have x1 : PX o F A F1 A := by rw [hF1]; exact PX.refl.f
  exact w_rowL (X := X) (k := k) (F0 := F) (A0 := A) hR ho hk hl hx hN hT hT0 hq N 0 F1 A vN (by omega) x1 (by rw [hF1, st2_s, u1_s]; rfl) (by simp [psN]) (fun i h0 hi2 => by simp [psN] at hi2; omega)
