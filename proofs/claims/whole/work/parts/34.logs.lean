/-! LOGS of the class; the reference's begin, see, course, rightLogs -/
theorem ps_step {hi : Int} {T : Nat → Int} {t : Nat} : cnN hi T (t + 1) = cnN hi T t + (if hi ≤ T (t + 1) ∧ psN hi T t 3 1 = 0 then 1 else 0) ∧ psN hi T (t + 1) 3 1 = if hi ≤ T (t + 1) then 1 else 0 := by
  have unf : psN hi T (t + 1) = psS hi (T (t + 1)) ((t : Int) + 1) (psN hi T t) := rfl
  unfold cnN
  rw [unf]
  unfold psS
  by_cases hT : hi ≤ T (t + 1)
  · rw [if_pos hT, if_pos hT]
    obtain ⟨b1, b2, b3, b4⟩ := psA_3 (t := (t : Int) + 1) (p := psN hi T t)
    by_cases hg : psN hi T t 3 1 = 0
    · rw [if_pos hg, if_pos ⟨hT, hg⟩]
      obtain ⟨d1, d2, d3⟩ := psB_3 (T := T (t + 1)) (p := psA ((t : Int) + 1) (psN hi T t))
      rw [d1, d2, b1]
      exact ⟨rfl, rfl⟩
    · rw [if_neg hg, if_neg (fun h => hg h.2)]
      obtain ⟨d1, d2, d3⟩ := psB_3 (T := T (t + 1)) (p := psN hi T t)
      rw [d1, d2]
      exact ⟨by omega, rfl⟩
  · rw [if_neg hT, if_neg hT, if_neg (fun h => hT h.1)]
    refine ⟨?_, ?_⟩
    · simp only [ne_eq, Int.add_right_inj, Int.reduceEq, not_false_eq_true, st2_n, st2_s, u1_s, u1_u1, u1_n]; omega
    · simp only [ne_eq, Int.add_right_inj, Int.reduceEq, not_false_eq_true, st2_n, st2_s, u1_s, u1_u1]
theorem cn_0 {hi : Int} {T : Nat → Int} : cnN hi T 0 = 0 := rfl
theorem cn_mono {hi : Int} {T : Nat → Int} {a b : Nat} (h : a ≤ b) : cnN hi T a ≤ cnN hi T b := by
  induction b with
  | zero => have : a = 0 := by omega
            subst this; exact Int.le_refl _
  | succ b ih =>
    by_cases e : a = b + 1
    · subst e; exact Int.le_refl _
    · have := ih (by omega)
      have := (ps_step (hi := hi) (T := T) (t := b)).1
      split at this <;> omega
theorem cn_nn {hi : Int} {T : Nat → Int} (n : Nat) : 0 ≤ cnN hi T n ∧ cnN hi T n ≤ n := ⟨(plI n).1, (plI n).2.1⟩
/-- whether a play has begun from second a to second b -/
abbrev bgN (hi : Int) (T : Nat → Int) (a b : Int) : Prop := min (cnN hi T (a.toNat - 1)) 200 < min (cnN hi T b.toNat) 200
/-- how many of the first m logs are so -/
def rtN (hi : Int) (T : Nat → Int) (f t p : Int → Int) : Nat → Int
  | 0 => 0
  | m + 1 => rtN hi T f t p m + if (if bgN hi T (f m) (t m) then 1 else 0) = p m then 1 else 0
theorem rt_nn {hi : Int} {T : Nat → Int} {f t p : Int → Int} : ∀ m, 0 ≤ rtN hi T f t p m ∧ rtN hi T f t p m ≤ m
  | 0 => ⟨Int.le_refl _, Int.le_refl _⟩
  | m + 1 => by
    have := rt_nn (hi := hi) (T := T) (f := f) (t := t) (p := p) m
    unfold rtN
    by_cases h : (if bgN hi T (f m) (t m) then (1 : Int) else 0) = p m
    · rw [if_pos h]; omega
    · rw [if_neg h]; omega
/-- the logs that stand are in order -/
def LgI (f t p : Int → Int) (n : Int) : Prop := 0 ≤ n ∧ n ≤ 40 ∧ ∀ i, 0 ≤ i → i < n → 1 ≤ f i ∧ f i ≤ t i ∧ t i ≤ 500 ∧ 0 ≤ p i ∧ p i ≤ 1
theorem w_begunL {X : Int × (Int → Int)} {k : Nat} {Q : Vv → Fn2 → Fn2 → Fn2 → Prop} {R : Fn2} {x hi : Int} {T : Nat → Int} {F A0 : Fn2} (hR : RS R) (hk : Y1.1 x = 0) (hl : Y1.2.1 x = 1001) (hx : x ≠ 188) (hT : ∀ s : Nat, 1 ≤ s → s ≤ 500 → A0 x s = T s)
    (hq : ∀ A', (∀ a, a ≠ 188 → A' a = A0 a) → (∀ s : Nat, s ≤ 500 → A' 188 s = min (cnN hi T s) 200) → Q vN F A' R) : ∀ (m t : Nat) (A : Fn2) (w5 w6 : Vv), t + m = 500 → (∀ a, a ≠ 188 → A a = A0 a) → (∀ s : Nat, s ≤ t → A 188 s = min (cnN hi T s) 200) → G X k m_X4_countBegun Q 5 [vA 184, vA x, vI hi, vI (psN hi T t 3 1), vI (t + 1), w5, w6] [] F A R
  | 0, t, A, w5, w6, hm, hX, hb => by
    have e : t = 500 := by omega
    subst e
    exact b_X4_countBegun_5 hR hk hl ⟨fun _ => hq A hX hb, fun hx => by omega⟩
  | m + 1, t, A, w5, w6, hm, hX, hb => by
    obtain ⟨i1, i2, i3, i4⟩ := plI (hi := hi) (T := T) t
    have hA : A x ((t : Int) + 1) = T (t + 1) := by rw [hX x hx]; exact hT (t + 1) (by omega) (by omega)
    obtain ⟨c1, c2⟩ := ps_step (hi := hi) (T := T) (t := t)
    have hbt := hb t (Nat.le_refl _)
    have hcn := cn_nn (hi := hi) (T := T) t
    have nx : ∀ (A1 : Fn2) (v g : Int) (w5 w6 : Vv), A1 = st2 A 188 ((t : Int) + 1) v → v = min (cnN hi T (t + 1)) 200 → g = psN hi T (t + 1) 3 1 → G X k m_X4_countBegun Q 5 [vA 184, vA x, vI hi, vI g, vI ((t : Int) + 1 + 1), w5, w6] [] F A1 R := by
      intro A1 v g w5 w6 hA1 hv hg
      have := w_begunL (X := X) (k := k) hR hk hl hx hT hq m (t + 1) A1 w5 w6 (by omega) (fun a ha => by rw [hA1, st2_n ha]; exact hX a ha) (fun s hs => by
        rw [hA1, st2_s]
        by_cases e : s = t + 1
        · subst e
          rw [show ((t + 1 : Nat) : Int) = (t : Int) + 1 by omega, u1_s]; exact hv
        · rw [u1_n (by omega)]; exact hb s (by omega))
      rw [← hg] at this
      exact this
    refine b_X4_countBegun_5 hR hk hl ⟨fun hx => by omega, fun _ => ⟨by omega, by omega, ?_⟩⟩
    rw [hA]
    have same : ∀ (g : Int) (w : Vv), g = psN hi T (t + 1) 3 1 → min (cnN hi T (t + 1)) 200 = min (cnN hi T t) 200 → G X k m_X4_countBegun Q 56 [vA 184, vA x, vI hi, vI (psN hi T t 3 1), vI ((t : Int) + 1), vI g, w] [] F A R := by
      intro g w hg he
      refine b_X4_countBegun_56 hR hk hl ?_
      rw [show (t : Int) + 1 - 1 = t by omega, hbt]
      refine ⟨by omega, by omega, by omega, by omega, by omega, by omega, fun A1 hA1 => ⟨by omega, nx A1 _ g _ _ hA1 (by omega) hg⟩⟩
    refine ⟨fun hlt => ?_, fun hge => ⟨fun hg => ?_, fun hg => ?_⟩⟩
    · refine same 0 _ ?_ ?_
      · rw [c2, if_neg (by omega)]
      · rw [if_neg (by omega)] at c1; omega
    · refine same 1 _ ?_ ?_
      · rw [c2, if_pos (by omega)]
      · rw [if_neg (fun h => hg h.2)] at c1; omega
    · rw [if_pos ⟨by omega, hg⟩] at c1
      rw [show (t : Int) + 1 - 1 = t by omega, hbt]
      refine ⟨by omega, by omega, by omega, fun hz => ?_, fun hz => ⟨by omega, by omega, fun A1 hA1 => ⟨by omega, ?_⟩⟩⟩
      · refine same 1 _ ?_ (by omega)
        rw [c2, if_pos (by omega)]
      · refine nx A1 _ 1 _ _ hA1 (by omega) ?_
        rw [c2, if_pos (by omega)]
theorem w_alikeLogL {X : Int × (Int → Int)} {k : Nat} {Q : Vv → Fn2 → Fn2 → Fn2 → Prop} {R : Fn2} {x hi : Int} {n : Nat} {T : Nat → Int} {f t p : Int → Int} {F A : Fn2} (hR : RS R) (hk : Y1.1 x = 0) (hl : Y1.2.1 x = 1001) (hL : LgI f t p n) (hF : F 184 0 = n) (h185 : ∀ i, 0 ≤ i → i < n → A 185 i = f i ∧ A 186 i = t i ∧ A 187 i = p i) (h188 : ∀ s : Nat, s ≤ 500 → A 188 s = min (cnN hi T s) 200) (hq : Q (vI (rtN hi T f t p n)) F A R) : ∀ (m i : Nat) (w5 : Vv), i + m = n → G X k m_X4_countAlike Q 11 [vA 184, vA x, vI hi, vI (rtN hi T f t p i), vI i, w5] [] F A R
  | 0, i, w5, hm => by
    have e : i = n := by omega
    subst e
    refine b_X4_countAlike_11 hR hk hl ?_
    rw [hF]
    exact ⟨fun _ => hq, fun hx => by omega⟩
  | m + 1, i, w5, hm => by
    obtain ⟨l1, l2, l3⟩ := hL
    obtain ⟨a1, a2, a3, a4, a5⟩ := l3 i (by omega) (by omega)
    obtain ⟨b1, b2, b3⟩ := h185 i (by omega) (by omega)
    have hr := rt_nn (hi := hi) (T := T) (f := f) (t := t) (p := p) i
    refine b_X4_countAlike_11 hR hk hl ?_
    rw [hF, b1, b2, b3]
    have e1 := h188 (f i - 1).toNat (by omega)
    have e2 := h188 (t i).toNat (by omega)
    rw [show (((f i - 1).toNat : Nat) : Int) = f i - 1 by omega, show (f i - 1).toNat = (f i).toNat - 1 by omega] at e1
    rw [show (((t i).toNat : Nat) : Int) = t i by omega] at e2
    rw [e1, e2]
    have unf : rtN hi T f t p (i + 1) = rtN hi T f t p i + if (if bgN hi T (f i) (t i) then 1 else 0) = p i then 1 else 0 := rfl
    have nx : ∀ v w, v = rtN hi T f t p (i + 1) → G X k m_X4_countAlike Q 11 [vA 184, vA x, vI hi, vI v, vI ((i : Int) + 1), w] [] F A R := by
      intro v w hv
      have := w_alikeLogL (X := X) (k := k) hR hk hl ⟨l1, l2, l3⟩ hF h185 h188 hq m (i + 1) w (by omega)
      rw [hv]; exact this
    refine ⟨fun hx => by omega, fun _ => ⟨by omega, by omega, by omega, by omega, by omega, by omega, by omega, fun hb => ?_, fun hb => ?_⟩⟩
    · have hb' : ¬ bgN hi T (f i) (t i) := hb
      rw [if_neg hb'] at unf
      refine ⟨fun hz => ⟨by omega, nx _ _ (by rw [unf, if_neg hz]; omega)⟩, fun hz => ⟨by omega, by omega, nx _ _ (by rw [unf, if_pos hz])⟩⟩
    · have hb' : bgN hi T (f i) (t i) := hb
      rw [if_pos hb'] at unf
      refine ⟨fun hz => ⟨by omega, nx _ _ (by rw [unf, if_neg hz]; omega)⟩, fun hz => ⟨by omega, by omega, nx _ _ (by rw [unf, if_pos hz])⟩⟩
/-- how many logs a course is like -/
theorem w_countAlike {X : Int × (Int → Int)} {k : Nat} {Q : Vv → Fn2 → Fn2 → Fn2 → Prop} {F A R : Fn2} {x hi : Int} {n : Nat} {T : Nat → Int} {f t p : Int → Int} (hR : RS R) (hk : Y1.1 x = 0) (hl : Y1.2.1 x = 1001) (hx : x < 184 ∨ 188 < x) (hT : ∀ s : Nat, 1 ≤ s → s ≤ 500 → A x s = T s) (hL : LgI f t p n) (hF : F 184 0 = n) (h185 : ∀ i, 0 ≤ i → i < n → A 185 i = f i ∧ A 186 i = t i ∧ A 187 i = p i) (h0 : A 188 0 = 0) (hq : ∀ A', (∀ a, a ≠ 188 → A' a = A a) → A' 188 0 = 0 → Q (vI (rtN hi T f t p n)) F A' R) : Wp X (k + 2) m_X4_countAlike [vA 184, vA x, vI hi] F A R Q := by
  refine Wp.of [vA 184, vA x, vI hi, vN, vN, vN] rfl rfl rfl (b_X4_countAlike_0 hk hl ?_)
  refine Wp.of [vA 184, vA x, vI hi, vN, vN, vN, vN] rfl rfl rfl (b_X4_countBegun_0 hk hl ?_)
  refine w_begunL (X := X) (k := k) (hi := hi) (T := T) hR hk hl (by omega) hT (fun A' z1 z2 => ?_) 500 0 A vN vN (by omega) (fun _ _ => rfl) (fun s hs => ?_)
  · refine b_X4_countAlike_6 hk hl (w_alikeLogL (X := X) (k := k + 1) hR hk hl hL hF (fun i a b => ?_) z2 (hq A' z1 ?_) n 0 vN (by omega))
    · rw [z1 _ (by decide), z1 _ (by decide), z1 _ (by decide)]; exact h185 i a b
    · have := z2 0 (by omega); rw [cn_0] at this; exact this.trans (by decide)
  · have : s = 0 := by omega
    subst this
    rw [cn_0]; exact h0.trans (by decide)
theorem x_see {X : Int × (Int → Int)} {k : Nat} {Q : Vv → Fn2 → Fn2 → Fn2 → Prop} {F A R : Fn2} {hi T t : Int} {p : Fn2} (hR : RS R) (hI : PlI t p) (ht0 : 0 ≤ t) (ht : t ≤ 100000) (h51 : F 373 51 = T) (hT : T ≤ 1000000) (h50 : F 373 50 = t + 1) (h56 : F 373 56 = hi) (h61 : F 373 61 = p 3 0) (h62 : F 373 62 = p 3 1) (hp : PlR 405 406 407 p A)
    (hq : ∀ F' A', F' 373 61 = psS hi T (t + 1) p 3 0 → F' 373 62 = psS hi T (t + 1) p 3 1 → PlR 405 406 407 (psS hi T (t + 1) p) A' → (∀ a, a < 405 ∨ 407 < a → A' a = A a) → (∀ x f, x ≠ 373 ∨ f ≠ 61 ∧ f ≠ 62 → F' x f = F x f) → Q (vI (if hi ≤ T ∧ p 3 1 = 0 then 1 else 0)) F' A' R) : Wp X (k + 1) m_X11_see [vA 373] F A R Q := by
  obtain ⟨i1, i2, i3, i4⟩ := hI
  -- what a second that plays has begun, on
  have plays : ∀ F1 A1 p1 (c : Int), p1 = (if p 3 1 = 0 then psA (t + 1) p else p) → hi ≤ T → c = (if hi ≤ T ∧ p 3 1 = 0 then 1 else 0) → 1 ≤ p1 3 0 → p1 3 0 ≤ t + 1 → F1 373 61 = p1 3 0 → F1 373 51 = T → PlR 405 406 407 p1 A1 → (∀ i, 0 ≤ i → i < min (p1 3 0) 200 → 0 ≤ p1 1 i ∧ p1 1 i ≤ t) → (∀ a, a < 405 ∨ 407 < a → A1 a = A a) → (∀ x f, x ≠ 373 ∨ f ≠ 61 ∧ f ≠ 62 → F1 x f = F x f) → G X k m_X11_see Q 91 [vA 373, vI 1, vI c] [] F1 A1 R := by
    intro F1 A1 p1 c hp1 hhi hc hp3 hp4 hF1 hF51 hr1 hlen hA1 hF1'
    have hc01 : 0 ≤ c ∧ c ≤ 1 := by rw [hc]; split <;> omega
    have e1 : psS hi T (t + 1) p = psB T p1 := by rw [hp1]; unfold psS; rw [if_pos hhi]
    obtain ⟨d1, d2, d3⟩ := psB_3 (T := T) (p := p1)
    have fin : ∀ F2 A2, F2 = st2 F1 373 62 1 → PlR 405 406 407 (psB T p1) A2 → (∀ a, a < 405 ∨ 407 < a → A2 a = A a) → Q (vI c) F2 A2 R := by
      intro F2 A2 hF2 hr2 hA2
      rw [hc]
      refine hq F2 A2 ?_ ?_ (by rw [e1]; exact hr2) hA2 fun x f h3 => ?_
      · rw [e1, d1, hF2]; simp only [ne_eq, Int.add_right_inj, Int.reduceEq, not_false_eq_true, st2_n, st2_s, u1_s, u1_u1, u1_n]; exact hF1
      · rw [e1, d2, hF2]; simp only [ne_eq, Int.add_right_inj, Int.reduceEq, not_false_eq_true, st2_n, st2_s, u1_s, u1_u1]
      · rw [hF2]
        by_cases e : x = 373
        · subst e; rw [st2_s, u1_n (by omega)]; exact hF1' _ f h3
        · rw [st2_n e]; exact hF1' x f h3
    refine b_X11_see_91 hR ⟨fun hz => by omega, fun _ => ⟨fun hz => ⟨by omega, by omega, fun F2 hF2 => ⟨hc01.1, hc01.2, fin F2 A1 hF2 ?_ hA1⟩⟩, fun hz => ?_⟩⟩
    · rw [hF1] at hz
      obtain ⟨g1, g2⟩ := (psB_r (T := T) (p := p1)).2 (by omega)
      intro i h0 hi2
      rw [d1] at hi2
      rw [d3, g1, g2]; exact hr1 i h0 hi2
    · rw [hF1] at hz ⊢
      obtain ⟨g1, g2⟩ := (psB_r (T := T) (p := p1)).1 (by omega)
      have hlast := hr1 (p1 3 0 - 1) (by omega) (by omega)
      have hlen1 := hlen (p1 3 0 - 1) (by omega) (by omega)
      rw [hlast.2.1]
      refine ⟨by omega, by omega, by omega, by omega, fun A3 hA3 => ?_⟩
      have hA37 : A3 407 (p1 3 0 - 1) = p1 2 (p1 3 0 - 1) := by rw [hA3, st2_n (by decide)]; exact hlast.2.2
      rw [hA37, hF51]
      have fin2 : ∀ A4 v, A4 = st2 A3 407 (p1 3 0 - 1) v → v = max (p1 2 (p1 3 0 - 1)) T → PlR 405 406 407 (psB T p1) A4 ∧ (∀ a, a < 405 ∨ 407 < a → A4 a = A a) := by
        intro A4 v hA4 hv
        refine ⟨fun i h0 hi2 => ?_, fun a ha => ?_⟩
        · rw [d1] at hi2
          rw [d3, g1, g2, hA4, hA3, hv]
          have hi3 := hr1 i h0 hi2
          simp only [ne_eq, Int.add_right_inj, Int.reduceEq, not_false_eq_true, st2_n, st2_s, u1_s, u1_u1]
          by_cases e : i = p1 3 0 - 1
          · subst e; simp only [u1_s]; exact ⟨hi3.1, trivial, trivial⟩
          · rw [u1_n e, u1_n e, u1_n e, u1_n e]; exact hi3
        · rw [hA4, hA3, st2_n (by omega), st2_n (by omega)]; exact hA1 a ha
      refine ⟨fun hz2 A4 hA4 => ⟨by omega, by omega, fun F5 hF5 => ⟨hc01.1, hc01.2, ?_⟩⟩, fun hz2 A4 hA4 => ⟨by omega, by omega, fun F5 hF5 => ⟨hc01.1, hc01.2, ?_⟩⟩⟩
      · obtain ⟨m1, m2⟩ := fin2 A4 _ hA4 (by omega)
        exact fin F5 A4 hF5 m1 m2
      · obtain ⟨m1, m2⟩ := fin2 A4 _ hA4 (by omega)
        exact fin F5 A4 hF5 m1 m2
  refine Wp.of [vA 373, vN, vN] rfl rfl rfl (b_X11_see_0 hR ?_)
  rw [h51, h56, h61, h62, h50]
  refine ⟨fun hlt => ?_, fun hge => ⟨fun hg => ?_, fun hg => ?_⟩⟩
  · refine b_X11_see_32 (b_X11_see_91 hR ⟨fun _ => ⟨by omega, by omega, fun F1 hF1 => ⟨by omega, by omega, ?_⟩⟩, fun hz => absurd rfl hz⟩)
    have e1 : psS hi T (t + 1) p = st2 p 3 1 0 := by unfold psS; rw [if_neg (by omega)]
    have := hq F1 A (by rw [e1, hF1]; simp only [ne_eq, Int.add_right_inj, Int.reduceEq, not_false_eq_true, st2_n, st2_s, u1_s, u1_u1, u1_n]; exact h61) (by rw [e1, hF1]; simp only [ne_eq, Int.add_right_inj, Int.reduceEq, not_false_eq_true, st2_n, st2_s, u1_s, u1_u1]) (by
      intro i h0 hi2
      rw [e1] at hi2 ⊢
      simp only [ne_eq, Int.add_right_inj, Int.reduceEq, not_false_eq_true, st2_n, st2_s, u1_s, u1_u1, u1_n] at hi2 ⊢
      exact hp i h0 hi2) (fun _ _ => rfl) (fun x f h3 => by
      rw [hF1]
      by_cases e : x = 373
      · subst e; rw [st2_s, u1_n (by omega)]
      · rw [st2_n e])
    rw [if_neg (by omega)] at this
    exact this
  · refine b_X11_see_32 (plays F A p 0 (by rw [if_neg hg]) (by omega) (by rw [if_neg (fun h => hg h.2)]) (by omega) (by omega) h61 h51 hp (fun i h0 hi2 => by have := i4 i h0 hi2; omega) (fun _ _ => rfl) (fun _ _ _ => rfl))
  · obtain ⟨b1, b2, b3, b4⟩ := psA_3 (t := t + 1) (p := p)
    refine ⟨fun hz => ⟨by omega, fun F1 hF1 => ?_⟩, fun hz => ⟨by omega, by omega, fun A2 h2 A3 h3 A4 h4 => ⟨by omega, fun F5 h5 => ?_⟩⟩⟩
    · obtain ⟨c1, c2, c3⟩ := b4 (by omega)
      refine plays F1 A (psA (t + 1) p) 1 (by rw [if_pos hg]) (by omega) (by rw [if_pos ⟨by omega, hg⟩]) (by omega) (by omega) (by rw [hF1, st2_s, u1_s, b1]) (by rw [hF1]; simp only [ne_eq, Int.add_right_inj, Int.reduceEq, not_false_eq_true, st2_n, st2_s, u1_s, u1_u1, u1_n]; exact h51) (fun i h0 hi2 => ?_) (fun i h0 hi2 => ?_) (fun _ _ => rfl) (fun x f h3 => ?_)
      · rw [b1] at hi2
        rw [c1, c2, c3]; exact hp i h0 (by omega)
      · rw [b1] at hi2
        rw [c2]; have := i4 i h0 (by omega); omega
      · rw [hF1]
        by_cases e : x = 373
        · subst e; rw [st2_s, u1_n (by omega)]
        · rw [st2_n e]
    · obtain ⟨c1, c2, c3⟩ := b3 hz
      refine plays F5 A4 (psA (t + 1) p) 1 (by rw [if_pos hg]) (by omega) (by rw [if_pos ⟨by omega, hg⟩]) (by omega) (by omega) (by rw [h5, st2_s, u1_s, b1]) (by rw [h5]; simp only [ne_eq, Int.add_right_inj, Int.reduceEq, not_false_eq_true, st2_n, st2_s, u1_s, u1_u1, u1_n]; exact h51) (fun i h0 hi2 => ?_) (fun i h0 hi2 => ?_) (fun a ha => ?_) (fun x f h3' => ?_)
      · rw [b1] at hi2
        rw [c1, c2, c3, h4, h3, h2]
        simp only [ne_eq, Int.add_right_inj, Int.reduceEq, not_false_eq_true, st2_n, st2_s, u1_s, u1_u1]
        by_cases e : i = p 3 0
        · subst e; simp only [u1_s, and_self]
        · rw [u1_n e, u1_n e, u1_n e, u1_n e, u1_n e, u1_n e]; exact hp i h0 (by omega)
      · rw [b1] at hi2
        rw [c2]
        by_cases e : i = p 3 0
        · subst e; rw [u1_s]; omega
        · rw [u1_n e]; have := i4 i h0 (by omega); omega
      · rw [h4, h3, h2, st2_n (by omega), st2_n (by omega), st2_n (by omega)]
      · rw [h5]
        by_cases e : x = 373
        · subst e; rw [st2_s, u1_n (by omega)]
        · rw [st2_n e]
