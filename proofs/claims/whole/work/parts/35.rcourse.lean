/-! THE REFERENCE'S COURSES -/
/-- when the i-th play began -/
theorem ps_first {hi : Int} {T : Nat → Int} : ∀ (n : Nat) (i : Int), 0 ≤ i → i < min (cnN hi T n) 200 → ∃ t : Nat, psN hi T n 0 i = (t : Int) + 1 ∧ t + 1 ≤ n ∧ cnN hi T t = i ∧ cnN hi T (t + 1) = i + 1
  | 0, i, h0, h => by rw [cn_0] at h; omega
  | n + 1, i, h0, h => by
    obtain ⟨c1, c2⟩ := ps_step (hi := hi) (T := T) (t := n)
    have unf : psN hi T (n + 1) = psS hi (T (n + 1)) ((n : Int) + 1) (psN hi T n) := rfl
    obtain ⟨b1, b2, b3, b4⟩ := psA_3 (t := (n : Int) + 1) (p := psN hi T n)
    by_cases hb : hi ≤ T (n + 1) ∧ psN hi T n 3 1 = 0
    · rw [if_pos hb] at c1
      have e0 : psN hi T (n + 1) 0 = psA ((n : Int) + 1) (psN hi T n) 0 := by
        rw [unf]; unfold psS; rw [if_pos hb.1, if_pos hb.2]; exact psB_3.2.2
      rw [e0]
      by_cases hc : psN hi T n 3 0 < 200
      · rw [(b3 hc).1]
        by_cases e : i = psN hi T n 3 0
        · refine ⟨n, ?_, Nat.le_refl _, ?_, ?_⟩
          · rw [e, u1_s]
          · rw [e]; rfl
          · rw [c1, e]; rfl
        · rw [u1_n e]
          have hc' : cnN hi T n = psN hi T n 3 0 := rfl
          obtain ⟨t, t1, t2, t3⟩ := ps_first (hi := hi) (T := T) n i h0 (by omega)
          exact ⟨t, t1, by omega, t3⟩
      · rw [(b4 hc).1]
        have hc' : cnN hi T n = psN hi T n 3 0 := rfl
        obtain ⟨t, t1, t2, t3⟩ := ps_first (hi := hi) (T := T) n i h0 (by omega)
        exact ⟨t, t1, by omega, t3⟩
    · rw [if_neg hb] at c1
      have e0 : psN hi T (n + 1) 0 = psN hi T n 0 := by
        rw [unf]; unfold psS
        by_cases hT : hi ≤ T (n + 1)
        · rw [if_pos hT, if_neg (fun h => hb ⟨hT, h⟩)]; exact psB_3.2.2
        · rw [if_neg hT]; simp only [ne_eq, Int.add_right_inj, Int.reduceEq, not_false_eq_true, st2_n, st2_s, u1_s, u1_u1]
      rw [e0]
      obtain ⟨t, t1, t2, t3⟩ := ps_first (hi := hi) (T := T) n i h0 (by omega)
      exact ⟨t, t1, by omega, t3⟩
/-- a play of the list begins from a to b: the same as by counting -/
theorem bg_ex {hi a b : Int} {T : Nat → Int} {n : Nat} (ha : 1 ≤ a) (hab : a ≤ b) (hb : b ≤ n) : bgN hi T a b ↔ ∃ i, 0 ≤ i ∧ i < min (cnN hi T n) 200 ∧ a ≤ psN hi T n 0 i ∧ psN hi T n 0 i ≤ b := by
  unfold bgN
  constructor
  · intro h
    have m1 := cn_mono (hi := hi) (T := T) (show b.toNat ≤ n by omega)
    have h1 := cn_nn (hi := hi) (T := T) (a.toNat - 1)
    refine ⟨cnN hi T (a.toNat - 1), h1.1, by omega, ?_⟩
    obtain ⟨t, t1, t2, t3, t4⟩ := ps_first (hi := hi) (T := T) n (cnN hi T (a.toNat - 1)) h1.1 (by omega)
    rw [t1]
    refine ⟨?_, ?_⟩
    · rcases Nat.lt_or_ge t (a.toNat - 1) with hlt | hge
      · have := cn_mono (hi := hi) (T := T) (show t + 1 ≤ a.toNat - 1 by omega)
        omega
      · omega
    · rcases Nat.lt_or_ge t b.toNat with hlt | hge
      · omega
      · have := cn_mono (hi := hi) (T := T) (show b.toNat ≤ t by omega)
        omega
  · rintro ⟨i, h0, h1, h2, h3⟩
    obtain ⟨t, t1, t2, t3, t4⟩ := ps_first (hi := hi) (T := T) n i h0 h1
    rw [t1] at h2 h3
    have m1 := cn_mono (hi := hi) (T := T) (show a.toNat - 1 ≤ t by omega)
    have m2 := cn_mono (hi := hi) (T := T) (show t + 1 ≤ b.toNat by omega)
    omega
theorem x_rightL2 {X : Int × (Int → Int)} {k : Nat} {Q : Vv → Fn2 → Fn2 → Fn2 → Prop} {R : Fn2} {hi : Int} {T : Nat → Int} {N : Nat} {f t p : Int → Int} {F A : Fn2} {i : Nat} {x1 : Int} (hR : RS R) (hi40 : i < 40) (h61 : F 373 61 = min (cnN hi T N) 200) (hpl : PlR 405 406 407 (psN hi T N) A) (b1 : A 417 i = f i) (b2 : A 418 i = t i) (b3 : A 419 i = p i) (hx : 0 ≤ x1 ∧ x1 ≤ 40)
    (hq : ∀ x4 : Int, ∀ w, (w = 0 ∨ w = 1) → (w = 1 ↔ ∃ j, 0 ≤ j ∧ j < min (cnN hi T N) 200 ∧ f i ≤ psN hi T N 0 j ∧ psN hi T N 0 j ≤ t i) → G X k m_X11_rightLogs Q 4 [vA 373, vI (x1 + (if w = p i then 1 else 0)), vI ((i : Int) + 1), vI w, vI x4] [] F A R) : ∀ (m j : Nat) (w : Int), (j : Int) + m = min (cnN hi T N) 200 → (w = 0 ∨ w = 1) → (w = 1 ↔ ∃ y, 0 ≤ y ∧ y < (j : Int) ∧ f i ≤ psN hi T N 0 y ∧ psN hi T N 0 y ≤ t i) → G X k m_X11_rightLogs Q 17 [vA 373, vI x1, vI i, vI w, vI j] [] F A R
  | 0, j, w, hm, hw, he => by
    have hj : (j : Int) = min (cnN hi T N) 200 := by omega
    refine b_X11_rightLogs_17 hR ?_
    rw [h61, b3]
    have := hq j w hw (by rw [he, hj])
    refine ⟨fun _ => ⟨by omega, by omega, fun hz => ⟨by omega, fun g hg => ⟨by omega, ?_⟩⟩, fun hz => ⟨by omega, fun g hg => ⟨by omega, ?_⟩⟩⟩, fun hx => by omega⟩
    · rw [hg]; rwa [if_neg hz] at this
    · rw [hg]; rwa [if_pos hz] at this
  | m + 1, j, w, hm, hw, he => by
    have hr := (hpl j (by omega) (by unfold cnN at hm; omega)).1
    have nx : ∀ w' : Int, (w' = 0 ∨ w' = 1) → (w' = 1 ↔ w = 1 ∨ f i ≤ psN hi T N 0 j ∧ psN hi T N 0 j ≤ t i) → G X k m_X11_rightLogs Q 17 [vA 373, vI x1, vI i, vI w', vI ((j : Int) + 1)] [] F A R := by
      intro w' hw' he'
      have := x_rightL2 (X := X) (k := k) (f := f) (t := t) (p := p) hR hi40 h61 hpl b1 b2 b3 hx hq m (j + 1) w' (by omega) hw' (by
        rw [he', he]
        constructor
        · rintro (⟨y, y0, y1, y2⟩ | h)
          · exact ⟨y, y0, by omega, y2⟩
          · exact ⟨j, by omega, by omega, h⟩
        · rintro ⟨y, y0, y1, y2⟩
          by_cases e : y = j
          · subst e; exact Or.inr y2
          · exact Or.inl ⟨y, y0, by omega, y2⟩)
      exact this
    refine b_X11_rightLogs_17 hR ?_
    rw [h61, hr, b1, b2]
    refine ⟨fun hx => by omega, fun _ => ⟨fun hz => ⟨by omega, nx 1 (Or.inr rfl) (by constructor <;> intro h; exact Or.inl (by omega); rfl)⟩, fun hz => ⟨by omega, by omega, by omega, by omega, fun h1 => ⟨by omega, nx 0 (Or.inl rfl) (by omega)⟩, fun h1 => ⟨fun h2 => ⟨by omega, nx 0 (Or.inl rfl) (by omega)⟩, fun h2 => ⟨by omega, nx 1 (Or.inr rfl) (by omega)⟩⟩⟩⟩⟩
theorem x_rightL {X : Int × (Int → Int)} {k : Nat} {Q : Vv → Fn2 → Fn2 → Fn2 → Prop} {R : Fn2} {hi : Int} {T : Nat → Int} {n : Nat} {f t p : Int → Int} {F A : Fn2} (hR : RS R) (hL : LgI f t p n) (h61 : F 373 61 = min (cnN hi T 500) 200) (h78 : F 373 78 = n) (hpl : PlR 405 406 407 (psN hi T 500) A) (h417 : ∀ i, 0 ≤ i → i < n → A 417 i = f i ∧ A 418 i = t i ∧ A 419 i = p i) (hq : Q (vI (rtN hi T f t p n)) F A R) : ∀ (m i : Nat) (w3 w4 : Vv), i + m = n → G X k m_X11_rightLogs Q 4 [vA 373, vI (rtN hi T f t p i), vI i, w3, w4] [] F A R
  | 0, i, w3, w4, hm => by
    have e : i = n := by omega
    subst e
    refine b_X11_rightLogs_4 ?_
    rw [h78]
    exact ⟨fun _ => hq, fun hx => by omega⟩
  | m + 1, i, w3, w4, hm => by
    obtain ⟨l1, l2, l3⟩ := hL
    obtain ⟨a1, a2, a3, a4, a5⟩ := l3 i (by omega) (by omega)
    obtain ⟨b1, b2, b3⟩ := h417 i (by omega) (by omega)
    have hr := rt_nn (hi := hi) (T := T) (f := f) (t := t) (p := p) i
    have hcn := cn_nn (hi := hi) (T := T) 500
    refine b_X11_rightLogs_4 ?_
    rw [h78]
    refine ⟨fun hx => by omega, fun _ => ?_⟩
    refine x_rightL2 (X := X) (k := k) (N := 500) (f := f) (t := t) (p := p) hR (by omega) h61 hpl b1 b2 b3 (by omega) (fun x4 w hw he => ?_) (min (cnN hi T 500) 200).toNat 0 0 (by omega) (Or.inl rfl) (by
      constructor
      · intro h; omega
      · rintro ⟨y, y0, y1, -⟩; omega)
    have hbg := bg_ex (hi := hi) (T := T) (n := 500) a1 a2 a3
    have unf : rtN hi T f t p (i + 1) = rtN hi T f t p i + if (if bgN hi T (f i) (t i) then 1 else 0) = p i then 1 else 0 := rfl
    have ew : w = (if bgN hi T (f i) (t i) then 1 else 0) := by
      by_cases hb : bgN hi T (f i) (t i)
      · rw [if_pos hb]; exact he.2 (hbg.1 hb)
      · rw [if_neg hb]
        rcases hw with h | h
        · exact h
        · exact absurd (hbg.2 (he.1 h)) hb
    rw [ew, ← unf]
    exact x_rightL (X := X) (k := k) hR ⟨l1, l2, l3⟩ h61 h78 hpl h417 hq m (i + 1) _ _ (by omega)
theorem x_right {X : Int × (Int → Int)} {k : Nat} {Q : Vv → Fn2 → Fn2 → Fn2 → Prop} {F A R : Fn2} {hi : Int} {T : Nat → Int} {n : Nat} {f t p : Int → Int} (hR : RS R) (hL : LgI f t p n) (h61 : F 373 61 = min (cnN hi T 500) 200) (h78 : F 373 78 = n) (hpl : PlR 405 406 407 (psN hi T 500) A) (h417 : ∀ i, 0 ≤ i → i < n → A 417 i = f i ∧ A 418 i = t i ∧ A 419 i = p i) (hq : Q (vI (rtN hi T f t p n)) F A R) : Wp X (k + 1) m_X11_rightLogs [vA 373] F A R Q :=
  Wp.of [vA 373, vN, vN, vN, vN] rfl rfl rfl (b_X11_rightLogs_0 (x_rightL (X := X) (k := k) hR hL h61 h78 hpl h417 hq n 0 vN vN (by omega)))
/-- as a course begins in the reference -/
def XB (b : Int) (P F A F' A' : Fn2) : Prop := F' 373 48 = b ∧ F' 373 49 = P 0 0 ∧ F' 373 57 = 1 ∧ F' 373 50 = 0 ∧ F' 373 53 = 0 ∧ (∃ s, XS s F' A' ∧ s 9 17 = 0 ∧ SEq True True P s (zeroS (P 5)) ∧ Iv P 0 0 0 0 0 s ∧ ∀ r, 0 ≤ r → r < 8 → s 2 r = P 5 r) ∧ (∀ a, a < 398 ∨ 400 < a → A' a = A a) ∧ ∀ x f, x ≠ 373 ∨ f < 48 ∨ 54 < f ∧ f ≠ 57 → F' x f = F x f
theorem x_beginL {X : Int × (Int → Int)} {k : Nat} {Q : Vv → Fn2 → Fn2 → Fn2 → Prop} {R : Fn2} {b sh : Int} {P : Fn2} {F A0 : Fn2} (hR : RS R) (hb : F 373 48 = b) (hb2 : 0 ≤ b ∧ b ≤ 4) (h5 : ∀ r, A0 382 (8 * b + r) = P 5 r) (hq : ∀ A', (∀ r, 0 ≤ r → r < 8 → A' 398 r = 0 ∧ A' 399 r = 0 ∧ A' 400 r = P 5 r) → (∀ a, a < 398 ∨ 400 < a → A' a = A0 a) → G X k m_X11_begin Q 30 [vA 373, vI sh, vI 8] [] F A' R) : ∀ (m : Nat) (j : Int) (A : Fn2), 0 ≤ j → j + m = 8 → (∀ r, 0 ≤ r → r < j → A 398 r = 0 ∧ A 399 r = 0 ∧ A 400 r = P 5 r) → (∀ a, a < 398 ∨ 400 < a → A a = A0 a) → G X k m_X11_begin Q 30 [vA 373, vI sh, vI j] [] F A R
  | 0, j, A, hj, hm, hr, ho => by
    have e : j = 8 := by omega
    subst e
    exact hq A hr ho
  | m + 1, j, A, hj, hm, hr, ho => by
    refine b_X11_begin_30 hR ⟨fun hx => by omega, fun _ => ⟨hj, by omega, fun A6 h6 A7 h7 => ?_⟩⟩
    rw [hb]
    refine ⟨by omega, by omega, by omega, by omega, fun A8 h8 => ⟨by omega, ?_⟩⟩
    have e382 : A7 382 (8 * b + j) = P 5 j := by rw [h7, h6, st2_n (by decide), st2_n (by decide), ho 382 (by omega)]; exact h5 j
    rw [e382] at h8
    refine x_beginL hR hb hb2 h5 hq m (j + 1) A8 (by omega) (by omega) (fun r a b => ?_) (fun a ha => ?_)
    · rw [h8, h7, h6]
      simp only [ne_eq, Int.add_right_inj, Int.reduceEq, not_false_eq_true, st2_n, st2_s, u1_s, u1_u1]
      by_cases e : r = j
      · subst e; simp only [u1_s, and_self]
      · rw [u1_n e, u1_n e, u1_n e]; exact hr r a (by omega)
    · rw [h8, h7, h6, st2_n (by omega), st2_n (by omega), st2_n (by omega)]; exact ho a ha
theorem x_begin {X : Int × (Int → Int)} {k : Nat} {Q : Vv → Fn2 → Fn2 → Fn2 → Prop} {F A R : Fn2} {sh b : Int} {P : Fn2} (hR : RS R) (h0 : 0 ≤ sh) (h4 : sh < 4) (hb : A 376 sh = b) (hb2 : 0 ≤ b ∧ b ≤ 4) (hP : WFP P) (hRP : RPm b A = P) (hq : ∀ F' A', XB b P F A F' A' → Q vN F' A' R) : Wp X (k + 1) m_X11_begin [vA 373, vI sh] F A R Q := by
  refine Wp.of [vA 373, vI sh, vN] rfl rfl rfl (b_X11_begin_0 hR ⟨h0, h4, fun F1 h1 => ?_⟩)
  have e1 : F1 373 48 = b := by rw [h1, st2_s, u1_s]; exact hb
  rw [e1]
  refine ⟨by omega, by omega, fun F2 h2 F3 h3 => ?_⟩
  have e3 : F3 373 48 = b := by rw [h3, h2]; simp only [ne_eq, Int.add_right_inj, Int.reduceEq, not_false_eq_true, st2_n, st2_s, u1_s, u1_u1, u1_n]; exact e1
  refine x_beginL (P := P) hR e3 hb2 (fun r => by rw [← hRP, RPm_5]) (fun A' z1 z2 => ?_) 8 0 A (by omega) (by omega) (fun r a b => by omega) (fun _ _ => rfl)
  refine b_X11_begin_30 hR ⟨fun _ F4 h4' F5 h5 F6 h6 F7 h7 F8 h8 => hq F8 A' ⟨?_, ?_, ?_, ?_, ?_, ⟨fun i => if i = 0 then A' 398 else if i = 1 then A' 399 else if i = 2 then A' 400 else fun _ => 0, ?_, rfl, ?_, ?_, fun r a b => (z1 r a b).2.2⟩, z2, ?_⟩, fun hx => absurd hx (by decide)⟩
  · subst h8 h7 h6 h5 h4'; simp only [ne_eq, Int.add_right_inj, Int.reduceEq, not_false_eq_true, st2_n, st2_s, u1_s, u1_u1, u1_n]; exact e3
  · subst h8 h7 h6 h5 h4' h3 h2; simp only [ne_eq, Int.add_right_inj, Int.reduceEq, not_false_eq_true, st2_n, st2_s, u1_s, u1_u1, u1_n]; rw [← hRP, RPm_0]
  · subst h8 h7 h6 h5 h4' h3 h2; simp only [ne_eq, Int.add_right_inj, Int.reduceEq, not_false_eq_true, st2_n, st2_s, u1_s, u1_u1, u1_n]
  · subst h8 h7 h6 h5 h4' h3 h2; simp only [ne_eq, Int.add_right_inj, Int.reduceEq, not_false_eq_true, st2_n, st2_s, u1_s, u1_u1, u1_n]
  · subst h8 h7 h6 h5 h4' h3 h2; simp only [ne_eq, Int.add_right_inj, Int.reduceEq, not_false_eq_true, st2_n, st2_s, u1_s, u1_u1, u1_n]
  · refine ⟨rfl, rfl, rfl, ?_, ?_, ?_⟩ <;> subst h8 h7 h6 h5 h4' h3 h2 <;> simp [st2_s, u1]
  · refine ⟨fun r a b => ⟨(z1 r a b).1, (z1 r a b).2.1⟩, fun r a b => ?_, fun _ => rfl, fun _ => ⟨rfl, rfl, rfl⟩⟩
    have := hP.1
    exact (z1 r a (by omega)).2.2
  · refine ⟨⟨fun r a b => ?_, fun r a b => ?_⟩, ?_, ?_⟩
    · obtain ⟨q1, q2, q3⟩ := z1 r a b
      simp only [q1, q2, if_true, show (1 : Int) ≠ 0 by decide, if_false]
      refine ⟨Int.le_refl _, Int.le_refl _, fun h => ?_, fun h => ⟨trivial, trivial⟩⟩
      have := hP.2.1 r a h
      omega
    · have h8' := hP.1
      have := hP.2.1 r a b
      have q3 := (z1 r a (by omega)).2.2
      simp [q3]; omega
    · have e : pot (fun i => if i = 0 then A' 398 else if i = 1 then A' 399 else if i = 2 then A' 400 else fun _ => 0) = 0 := by
        unfold pot
        simp [sm, pp, (z1 0 (by decide) (by decide)).1, (z1 1 (by decide) (by decide)).1, (z1 2 (by decide) (by decide)).1, (z1 3 (by decide) (by decide)).1, (z1 4 (by decide) (by decide)).1, (z1 5 (by decide) (by decide)).1, (z1 6 (by decide) (by decide)).1, (z1 7 (by decide) (by decide)).1, (z1 0 (by decide) (by decide)).2.1, (z1 1 (by decide) (by decide)).2.1, (z1 2 (by decide) (by decide)).2.1, (z1 3 (by decide) (by decide)).2.1, (z1 4 (by decide) (by decide)).2.1, (z1 5 (by decide) (by decide)).2.1, (z1 6 (by decide) (by decide)).2.1, (z1 7 (by decide) (by decide)).2.1]
      rw [e]; exact Int.le_refl 0
    · simp [Bk]
  · intro x f hx
    subst h8 h7 h6 h5 h4' h3 h2 h1
    by_cases e : x = 373
    · subst e
      rw [st2_s, u1_n (by omega), st2_s, u1_n (by omega), st2_s, u1_n (by omega), st2_s, u1_n (by omega), st2_s, u1_n (by omega), st2_s, u1_n (by omega), st2_s, u1_n (by omega), st2_s, u1_n (by omega)]
    · rw [st2_n e, st2_n e, st2_n e, st2_n e, st2_n e, st2_n e, st2_n e, st2_n e]
