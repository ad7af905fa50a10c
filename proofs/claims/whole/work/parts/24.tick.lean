/-! THE REFERENCE'S SECOND -/
def XE (b : Int) (P : Fn2) (C : Nat → Option (List Int)) (F A : Fn2) : Prop := F 373 48 = b ∧ 0 ≤ b ∧ b ≤ 4 ∧ RPm b A = P ∧ F 373 49 = P 0 0 ∧ XLw A C
def XS (s F A : Fn2) : Prop := A 398 = s 0 ∧ A 399 = s 1 ∧ A 400 = s 2 ∧ F 373 51 = s 9 15 ∧ F 373 52 = s 9 16 ∧ F 373 54 = s 9 18
/-- only what a second may change has changed -/
def XX (F A F' A' : Fn2) : Prop := (∀ a, a < 396 ∨ 404 < a ∨ a = 397 ∨ a = 400 → A' a = A a) ∧ ∀ x f, x ≠ 373 ∨ f < 51 ∨ 54 < f ∨ f = 53 → F' x f = F x f
def XC (A A' : Fn2) : Prop := ∀ c, 401 ≤ c → c ≤ 404 → A' c = A c
theorem XX.refl {F A : Fn2} : XX F A F A := ⟨fun _ _ => rfl, fun _ _ _ => rfl⟩
theorem XX.trans {F A F1 A1 F2 A2 : Fn2} (h : XX F A F1 A1) (g : XX F1 A1 F2 A2) : XX F A F2 A2 :=
  ⟨fun a h1 => (g.1 a h1).trans (h.1 a h1), fun x f h1 => (g.2 x f h1).trans (h.2 x f h1)⟩
theorem XX.a {c i v : Int} {F A F1 A1 : Fn2} (h : XX F A F1 A1) (h1 : 396 ≤ c) (h2 : c ≤ 404) (h3 : c ≠ 397) (h4 : c ≠ 400) : XX F A F1 (st2 A1 c i v) :=
  ⟨fun a h5 => by rw [st2_n (by omega)]; exact h.1 a h5, h.2⟩
theorem XX.f {i v : Int} {F A F1 A1 : Fn2} (h : XX F A F1 A1) (h1 : 51 ≤ i) (h2 : i ≤ 54) (h3 : i ≠ 53) : XX F A (st2 F1 373 i v) A1 :=
  ⟨h.1, fun x f h3 => by
    by_cases e : x = 373
    · subst e; rw [st2_s, u1_n (by omega)]; exact h.2 _ f h3
    · rw [st2_n e]; exact h.2 x f h3⟩
theorem XX.s {F A F1 A1 : Fn2} {S : Int → Int} (h : XX F A F1 A1) : XX F A F1 (up2 A1 396 S) :=
  ⟨fun a h3 => by rw [up2_n (by omega)]; exact h.1 a h3, h.2⟩
theorem XC.refl {A : Fn2} : XC A A := fun _ _ _ => rfl
theorem XC.trans {A A1 A2 : Fn2} (h : XC A A1) (g : XC A1 A2) : XC A A2 := fun c a b => (g c a b).trans (h c a b)
theorem XC.a {c i v : Int} {A A1 : Fn2} (h : XC A A1) (h2 : c ≤ 400) : XC A (st2 A1 c i v) := fun d a b => by
  rw [st2_n (by omega)]; exact h d a b
theorem XL1.of {i : Int} {A A' : Fn2} (h1 : A' 390 = A 390) (h2 : A' 391 = A 391) (h3 : A' 392 = A 392) (h4 : A' 393 = A 393) (h5 : A' 397 = A 397) : ∀ {c : Option (List Int)}, XL1 A i c → XL1 A' i c
  | none, h => by unfold XL1 at h ⊢; rw [h5]; exact h
  | some cs, h => by unfold XL1 at h ⊢; rw [h1, h2, h3, h4, h5]; exact h
theorem XE.xx {b : Int} {P F A F' A' : Fn2} {C : Nat → Option (List Int)} (h : XE b P C F A) (x : XX F A F' A') : XE b P C F' A' := by
  obtain ⟨a1, a2, a3, a4, a5, a6, a7, a8⟩ := h
  have z : ∀ i c, XL1 A i c → XL1 A' i c := fun i c hc => hc.of (x.1 _ (by omega)) (x.1 _ (by omega)) (x.1 _ (by omega)) (x.1 _ (by omega)) (x.1 _ (by omega))
  refine ⟨?_, a2, a3, ?_, ?_, z _ _ a6, z _ _ a7, z _ _ a8⟩
  · rw [x.2 _ _ (by omega)]; exact a1
  · rw [RPm_st (A := A) (A' := A') (fun a h1 h2 => x.1 a (by omega))]; exact a4
  · rw [x.2 _ _ (by omega)]; exact a5
theorem XE.rw {b t c a g K : Int} {P F A s : Fn2} {C : Nat → Option (List Int)} (h : XE b P C F A) (hs : XS s F A) (hP : WFP P) (hI : Iv P K t c a g s) : RW2 F A := by
  obtain ⟨a1, a2, a3, a4, a5, a6⟩ := h
  have h8 := hP.1
  have h0 : ∀ r, 0 ≤ r → r < P 0 0 → 0 ≤ A 398 r ∧ A 398 r ≤ 99 := fun r z0 z1 => by
    rw [hs.1]
    have h1 := hI.1.1 r z0 (by omega)
    have h2 := hP.2.1 r z0 z1
    have := h1.2.2.1 z1
    omega
  have h0' : ∀ r, 0 ≤ r → r < P 0 0 → 0 ≤ A 399 r := fun r z0 z1 => by
    rw [hs.2.1]
    exact (hI.1.1 r z0 (by omega)).2.1
  refine ⟨⟨by omega, by rw [a1, a4]; exact hP, ?_⟩, ?_⟩
  · rw [a1, a4]; exact h0
  · rw [a1, a4]; exact h0'
theorem x_lesser {X : Int × (Int → Int)} {k : Nat} {Q : Vv → Fn2 → Fn2 → Fn2 → Prop} {F A R : Fn2} {a b : Int} (hq : Q (vI (min a b)) F A R) : Wp X (k + 1) m_X11_lesser [vI a, vI b] F A R Q := by
  refine Wp.of [vI a, vI b] rfl rfl rfl (b_X11_lesser_0 ⟨fun h => ?_, fun h => ?_⟩)
  · rwa [show min a b = b by omega] at hq
  · rwa [show min a b = a by omega] at hq
theorem x_take {X : Int × (Int → Int)} {k : Nat} {Q : Vv → Fn2 → Fn2 → Fn2 → Prop} {F A R : Fn2} {r n : Int} {s : Fn2} (hR : RS R) (hs : XS s F A) (h0 : 0 ≤ r) (h8 : r < 8) (hn : 0 ≤ n) (hn2 : n ≤ s 0 r) (hn3 : n ≤ 50) (hw : s 0 r ≤ 99) (hh : 0 ≤ s 1 r) (hh2 : s 1 r ≤ 42000000) (hq : ∀ A', XS (tkS r n s) F A' → XX F A F A' → XC A A' → A' 396 = A 396 → Q (vI (s 1 r * n / s 0 r)) F A' R) : Wp X (k + 1) m_X11_take [vA 373, vI r, vI n] F A R Q := by
  obtain ⟨e0, e1, e2, e3⟩ := hs
  have hd := dvr hh hn hn2
  have hm := mul_b hh hh2 hn hn3
  refine Wp.of [vA 373, vI r, vI n, vN] rfl rfl rfl (b_X11_take_0 hR ?_)
  rw [e0, e1]
  refine ⟨fun hz => ⟨h0, h8, by omega, by omega, by omega, fun g hg => ?_⟩, fun hz => ⟨h0, h8, by omega, fun A4 hA4 => ?_⟩⟩
  · subst hg
    refine ⟨by omega, fun g hg => ?_⟩
    subst hg
    rw [show (st2 A 398 r (s 0 r - n)) 399 = s 1 by simp only [ne_eq, Int.add_right_inj, Int.reduceEq, not_false_eq_true, st2_n, st2_s, u1_s, u1_u1, e1]]
    refine ⟨by omega, fun g hg => ?_⟩
    subst hg
    refine hq _ ?_ ((XX.refl.a (by omega) (by omega) (by omega) (by omega)).a (by omega) (by omega) (by omega) (by omega)) ((XC.refl.a (by omega)).a (by omega)) ?_
    · refine ⟨?_, ?_, ?_, ?_⟩ <;> simp only [tkS, ne_eq, Int.add_right_inj, Int.reduceEq, not_false_eq_true, st2_n, st2_s, u1_s, u1_u1, e0, e1, e2]
      exact e3
    · simp only [ne_eq, Int.add_right_inj, Int.reduceEq, not_false_eq_true, st2_n, st2_s, u1_s, u1_u1]
  · have r1 : A4 399 = s 1 := by rw [hA4]; simp only [ne_eq, Int.add_right_inj, Int.reduceEq, not_false_eq_true, st2_n, st2_s, u1_s, u1_u1, e1]
    rw [r1]
    refine ⟨by omega, fun A5 hA5 => ?_⟩
    subst hz
    have eA : A5 = A := by
      have h1 : st2 A 398 r (s 0 r - 0) = A := st2_id (by rw [e0]; omega)
      rw [hA5, hA4, h1]
      exact st2_id (by rw [e1]; omega)
    rw [eA]
    have h1 := hq A (by rw [tk_0]; exact ⟨e0, e1, e2, e3⟩) XX.refl XC.refl rfl
    simpa using h1
theorem XS.s {s F A : Fn2} {S : Int → Int} (h : XS s F A) : XS s F (up2 A 396 S) := by
  obtain ⟨e0, e1, e2, e3⟩ := h
  refine ⟨?_, ?_, ?_, e3⟩ <;> rw [up2_n (by decide)] <;> assumption
theorem XS.c {s F A : Fn2} {c i v : Int} (h : XS s F A) (h1 : 401 ≤ c) : XS s F (st2 A c i v) := by
  obtain ⟨e0, e1, e2, e3⟩ := h
  refine ⟨?_, ?_, ?_, e3⟩ <;> rw [st2_n (by omega)] <;> assumption
theorem XC.s {A A1 : Fn2} {S : Int → Int} (h : XC A A1) : XC A (up2 A1 396 S) := fun d a b => by
  rw [up2_n (by omega)]; exact h d a b
/-- law 1 or 2 where there is one -/
theorem x_lawI {X : Int × (Int → Int)} {k : Nat} {Q : Vv → Fn2 → Fn2 → Fn2 → Prop} {F A R : Fn2} {b t c a g K r lo hi : Int} {i : Nat} {P s : Fn2} {C : Nat → Option (List Int)} (hR : RS R) (hP : WFP P) (hI : Iv P K t c a g s) (hE : XE b P C F A) (hs : XS s F A) (h0 : 0 ≤ r) (hr : r < P 0 0) (hlh : i = 1 ∧ lo = 0 ∧ hi = 30 ∨ i = 2 ∧ lo = 0 ∧ hi = 999) (hne : ¬ A 397 i = 0) (hq : ∀ S', Q (vI (lwAt (LwF C i) P s r)) F (up2 A 396 S') R) : Wp X (k + 3) m_X11_law [vA 373, vI i, vI r, vI lo, vI hi] F A R Q := by
  have hw := hE.rw hs hP hI
  obtain ⟨a1, a2, a3, a4, a5, a6, a7, a8⟩ := hE
  have hc : ∃ cs, C i = some cs ∧ XL1 A i (some cs) := by
    rcases hlh with ⟨h1, -, -⟩ | ⟨h1, -, -⟩ <;> subst h1
    · cases e : C 1 with
      | none => rw [e] at a7; exact absurd a7 hne
      | some cs => rw [e] at a7; exact ⟨cs, rfl, a7⟩
    · cases e : C 2 with
      | none => rw [e] at a8; exact absurd a8 hne
      | some cs => rw [e] at a8; exact ⟨cs, rfl, a8⟩
  obtain ⟨cs, e, hc⟩ := hc
  refine x_law hR hw h0 (by rw [a1, a4]; exact hr) (by omega) (by omega) (by omega) hc fun S' => ?_
  have := hq S'
  rw [a1, a4, hs.1, hs.2.1]
  rcases hlh with ⟨h1, h2, h3⟩ | ⟨h1, h2, h3⟩ <;> subst h1 <;> subst h2 <;> subst h3 <;> simpa [lwAt, LwF, lawV, e] using this
theorem x_law0 {A : Fn2} {P s : Fn2} {C : Nat → Option (List Int)} {r : Int} (a6 : XLw A C) : (A 397 1 = 0 → lwAt (LwF C 1) P s r = 2) ∧ (A 397 2 = 0 → lwAt (LwF C 2) P s r = 0) := by
  obtain ⟨a6, a7, a8⟩ := a6
  refine ⟨fun h => ?_, fun h => ?_⟩
  · cases e : C 1 with
    | none => simp only [lwAt, LwF, lawV, e]; omega
    | some cs => rw [e] at a7; exact absurd h a7.1
  · cases e : C 2 with
    | none => simp only [lwAt, LwF, lawV, e]; omega
    | some cs => rw [e] at a8; exact absurd h a8.1
theorem x_coolL {X : Int × (Int → Int)} {k : Nat} {Q : Vv → Fn2 → Fn2 → Fn2 → Prop} {R : Fn2} {b t a g K c : Int} {P : Fn2} {C : Nat → Option (List Int)} (hR : RS R) (hP : WFP P) {s : Fn2} (hI : Iv P K t c a g s) : ∀ (m : Nat) (j : Int) (F A : Fn2) (w2 w3 : Vv), XE b P C F A → XS s F A → 0 ≤ j → j + m = P 0 0 → (∀ r, 0 ≤ r → r < j → A 402 r = lwAt (LwF C 2) P s r) → (∀ A' w2 w3, XS s F A' → XX F A F A' → (∀ r, 0 ≤ r → r < P 0 0 → A' 402 r = lwAt (LwF C 2) P s r) → G X (k + 3) m_X11_fillAll Q 47 [vA 373, vI 0, w2, w3] [] F A' R) → G X (k + 3) m_X11_fillAll Q 2 [vA 373, vI j, w2, w3] [] F A R
  | 0, j, F, A, w2, w3, hE, hs, hj, hm, hco, hq => by
    refine b_X11_fillAll_2 hR ⟨fun _ => hq A w2 w3 hs XX.refl (fun r a b => hco r a (by omega)), fun hx => ?_⟩
    rw [hE.2.2.2.2.1] at hx; omega
  | m + 1, j, F, A, w2, w3, hE, hs, hj, hm, hco, hq => by
    have hrr := hP.1
    have hjr : j < P 0 0 := by omega
    have nx : ∀ A1 w2 w3, XS s F A1 → XX F A F A1 → A1 402 = u1 (A 402) j (lwAt (LwF C 2) P s j) → G X (k + 3) m_X11_fillAll Q 2 [vA 373, vI (j + 1), w2, w3] [] F A1 R := by
      intro A1 w2 w3 y1 y2 y3
      refine x_coolL hR hP hI m (j + 1) F A1 w2 w3 (hE.xx y2) y1 (by omega) (by omega) (fun r z0 z1 => ?_) fun A' w2 w3 v1 v2 v3 => hq A' w2 w3 v1 (y2.trans v2) v3
      rw [y3]
      by_cases e : r = j
      · subst e; rw [u1_s]
      · rw [u1_n e]; exact hco r z0 (by omega)
    refine b_X11_fillAll_2 hR ⟨fun hx => ?_, fun _ => ⟨fun hz => ⟨hj, by omega, fun A1 hA1 => ⟨by omega, ?_⟩⟩, fun hz => ?_⟩⟩
    · rw [hE.2.2.2.2.1] at hx; omega
    · refine nx A1 _ _ (by rw [hA1]; exact hs.c (by omega)) (by rw [hA1]; exact XX.refl.a (by omega) (by omega) (by omega) (by omega)) ?_
      rw [hA1, st2_s, (x_law0 hE.2.2.2.2.2).2 hz]
    · refine x_lawI (i := 2) hR hP hI hE hs hj hjr (Or.inr ⟨rfl, rfl, rfl⟩) hz fun S' => ?_
      refine b_X11_fillAll_34 (by decide +kernel) (show Y1.2.1 402 = 8 by decide +kernel) ⟨hj, by omega, fun A1 hA1 => ⟨by omega, ?_⟩⟩
      refine nx A1 _ _ (by rw [hA1]; exact hs.s.c (by omega)) (by rw [hA1]; exact XX.refl.s.a (by omega) (by omega) (by omega) (by omega)) ?_
      rw [hA1, st2_s, up2_n (by decide)]
theorem XE.p {b r : Int} {P F A : Fn2} {C : Nat → Option (List Int)} (hE : XE b P C F A) : A 381 (8 * b + r) = P 4 r ∧ A 384 (8 * b + r) = P 7 r ∧ A 383 (8 * b + r) = P 6 r ∧ A 385 (8 * b + r) = P 8 r ∧ A 379 (8 * b + r) = P 1 r ∧ A 386 (4 * b + r) = P 9 r ∧ A 387 (4 * b + r) = P 10 r ∧ A 388 (4 * b + r) = P 11 r := by
  rw [← hE.2.2.2.1]
  simp only [RPm_4, RPm_7, RPm_6, RPm_8, RPm_1, RPm_9, RPm_10, RPm_11, and_self]
theorem x_fillL {X : Int × (Int → Int)} {k : Nat} {Q : Vv → Fn2 → Fn2 → Fn2 → Prop} {R : Fn2} {b cw t a g : Int} {P : Fn2} {C : Nat → Option (List Int)} {Cl : Int → Int} (hR : RS R) (hP : WFP P) (hc0 : 0 ≤ cw) (hc1 : cw ≤ 99) (hCl : ∀ r, 0 ≤ r → r < P 0 0 → 0 ≤ Cl r ∧ Cl r ≤ 999) : ∀ (m : Nat) (j K c : Int) (s F A : Fn2) (w2 w3 : Vv), XE b P C F A → XS s F A → F 373 55 = cw → (∀ r, 0 ≤ r → r < P 0 0 → A 402 r = Cl r) → Iv P K t c a g s → K + 2439 * m ≤ 41000000 → c + 30 * m ≤ 1000000000 → 0 ≤ j → j + m = P 0 0 → (∀ F' A', XS (lp (fillS P cw Cl) m j s) F' A' → XX F A F' A' → Q vN F' A' R) → G X (k + 1) m_X11_fillAll Q 47 [vA 373, vI j, w2, w3] [] F A R
  | 0, j, K, c, s, F, A, w2, w3, hE, hs, hcw, hC, hI, hK, hc, hj, hm, hq => by
    refine b_X11_fillAll_47 hR ⟨fun _ => hq F A hs XX.refl, fun hx => ?_⟩
    rw [hE.2.2.2.2.1] at hx; omega
  | m + 1, j, K, c, s, F, A, w2, w3, hE, hs, hcw, hC, hI, hK, hc, hj, hm, hq => by
    have hrr := hP.1
    have hjr : j < P 0 0 := by omega
    have hs' := hs
    obtain ⟨e0, e1, e2, f5, f6, f8⟩ := hs'
    obtain ⟨a1, a2, a3, a4⟩ := hI.1.1 j hj (by omega)
    obtain ⟨p1, p2, p3, p4, p5, p6, -⟩ := hP.2.1 j hj hjr
    have a3 := a3 hjr
    have hot := hI.hot hP hj (show j < 8 by omega)
    have hk := hI.2.2
    unfold Bk at hk
    have hCj := hCl j hj hjr
    have hI' := hI.fill (r := j) (Cl := Cl) hP hc0 hc1 hj hjr hCj.1
    have hb := hE.1
    have hb2 : 0 ≤ b ∧ b ≤ 4 := ⟨hE.2.1, hE.2.2.1⟩
    have hp := hE.p (r := j)
    refine b_X11_fillAll_47 hR ⟨fun hx => ?_, fun _ => ?_⟩
    · rw [hE.2.2.2.2.1] at hx; omega
    rw [hb]
    refine ⟨by omega, by omega, fun g1 hg1 => ?_⟩
    have hg1' := hg1.symm
    subst hg1'
    rw [hp.1, hp.2.1, e0]
    refine ⟨by omega, by omega, by omega, by omega, by omega, x_lesser (k := k) ?_⟩
    have hg0 : 0 ≤ min (P 7 j) (P 4 j - s 0 j) ∧ min (P 7 j) (P 4 j - s 0 j) ≤ 30 ∧ s 0 j + min (P 7 j) (P 4 j - s 0 j) ≤ P 4 j := by omega
    refine b_X11_fillAll_87 hR ?_
    rw [e0, f6]
    generalize hgg : min (P 7 j) (P 4 j - s 0 j) = n at *
    refine ⟨by omega, by omega, by omega, fun A3 hA3 => ⟨by omega, fun F2 hF2 => ?_⟩⟩
    have hF22 : F2 373 55 = cw := by rw [hF2]; simp only [ne_eq, Int.add_right_inj, Int.reduceEq, not_false_eq_true, st2_n, st2_s, u1_s, u1_u1, u1_n]; exact hcw
    have hmu := mul_b hg0.1 hg0.2.1 hc0 hc1
    have r1 : A3 399 = s 1 := by rw [hA3]; simp only [ne_eq, Int.add_right_inj, Int.reduceEq, not_false_eq_true, st2_n, st2_s, u1_s, u1_u1, e1]
    rw [hF22, r1]
    refine ⟨by omega, by omega, fun A4 hA4 => ?_⟩
    have r2 : A4 398 = u1 (s 0) j (s 0 j + n) := by rw [hA4, hA3]; simp only [ne_eq, Int.add_right_inj, Int.reduceEq, not_false_eq_true, st2_n, st2_s, u1_s, u1_u1, e0]
    have r3 : A4 399 = u1 (s 1) j (s 1 j + n * cw) := by rw [hA4, st2_s, r1]
    have r5 : A4 383 (8 * b + j) = P 6 j := by rw [hA4, hA3, st2_n (by decide), st2_n (by decide)]; exact hp.2.2.1
    have x4 : XX F A F2 A4 := by rw [hF2, hA4, hA3]; exact ((XX.refl.f (by omega) (by omega) (by omega)).a (by omega) (by omega) (by omega) (by omega)).a (by omega) (by omega) (by omega) (by omega)
    have x4c : XC A A4 := by rw [hA4, hA3]; exact (XC.refl.a (by omega)).a (by omega)
    -- the last word on room j
    have fin : ∀ h A5, h = s 1 j + n * cw + (if 0 < s 0 j + n then P 6 j else 0) → 0 ≤ h → h ≤ 45000000 → A5 398 = u1 (s 0) j (s 0 j + n) → A5 399 = u1 (s 1) j h → XX F A F2 A5 → XC A A5 → A5 400 = A 400 → Wp X (k + 1) m_X11_lesser [vI (A5 402 j), vI (A5 399 j)] F2 A5 R (fun v F A R => G X (k + 1) m_X11_fillAll Q 173 [vA 373, vI j, vI (8 * b + j), vI n] [v, vI (A5 399 j), vI j, vA 399] F A R) := by
      intro h A5 hh hh0 hh1 h18 h19 x5 c5 w5
      refine x_lesser (k := k) ?_
      have r4 : A5 402 j = Cl j := by rw [c5 _ (by omega) (by omega)]; exact hC j hj hjr
      rw [r4, h19, u1_s]
      refine b_X11_fillAll_173 (s1 := j) (s2 := h) (s3 := min (Cl j) h) (by decide +kernel) (show Y1.2.1 399 = 8 by decide +kernel) ⟨by omega, hj, by omega, fun A6 hA6 => ⟨by omega, ?_⟩⟩
      have es : fillS P cw Cl j s = st2 (st2 (st2 s 0 j (s 0 j + n)) 1 j (max 0 (h - Cl j))) 9 16 (s 9 16 + n) := by
        unfold fillS; rw [hgg, hh]
      have x6 : XX F A F2 A6 := by rw [hA6]; exact x5.a (by omega) (by omega) (by omega) (by omega)
      refine x_fillL hR hP hc0 hc1 hCl m (j + 1) (K + 2439) (c + 30) (fillS P cw Cl j s) F2 A6 _ _ (hE.xx x6) ?_ hF22 (fun r z0 z1 => ?_) hI' (by omega) (by omega) (by omega) (by omega) (fun F' A' y1 y2 => hq F' A' y1 (x6.trans y2))
      · rw [es]
        refine ⟨?_, ?_, ?_, ?_, ?_, ?_⟩
        · rw [hA6]; simp only [ne_eq, Int.add_right_inj, Int.reduceEq, not_false_eq_true, st2_n, st2_s, u1_s, u1_u1, h18]
        · rw [hA6]; simp only [ne_eq, Int.add_right_inj, Int.reduceEq, not_false_eq_true, st2_n, st2_s, u1_s, u1_u1, h19]
          rw [show h - min (Cl j) h = max 0 (h - Cl j) by omega]
        · rw [hA6]; simp only [ne_eq, Int.add_right_inj, Int.reduceEq, not_false_eq_true, st2_n, st2_s, u1_s, u1_u1]; rw [w5]; exact e2
        · rw [hF2]; simp only [ne_eq, Int.add_right_inj, Int.reduceEq, not_false_eq_true, st2_n, st2_s, u1_s, u1_u1, u1_n]; exact f5
        · rw [hF2]; simp only [ne_eq, Int.add_right_inj, Int.reduceEq, not_false_eq_true, st2_n, st2_s, u1_s, u1_u1]
        · rw [hF2]; simp only [ne_eq, Int.add_right_inj, Int.reduceEq, not_false_eq_true, st2_n, st2_s, u1_s, u1_u1, u1_n]; exact f8
      · rw [hA6, st2_n (by decide), c5 _ (by omega) (by omega)]; exact hC r z0 z1
    have w4 : A4 400 = A 400 := x4.1 400 (by omega)
    rw [r2, r3, r5, u1_s, u1_s]
    refine ⟨fun hz => ⟨by omega, fun A5 hA5 => ?_⟩, fun hz => ⟨by omega, by omega, by omega, fun A6 hA6 => ?_⟩⟩
    · refine fin _ A5 (by rw [if_neg hz]) (by omega) (by omega) ?_ ?_ ?_ ?_ ?_
      · rw [hA5]; simp only [ne_eq, Int.add_right_inj, Int.reduceEq, not_false_eq_true, st2_n, st2_s, u1_s, u1_u1, r2]
      · rw [hA5]; simp only [ne_eq, Int.add_right_inj, Int.reduceEq, not_false_eq_true, st2_n, st2_s, u1_s, u1_u1, r3]
      · rw [hA5]; exact x4.a (by omega) (by omega) (by omega) (by omega)
      · rw [hA5]; exact x4c.a (by omega)
      · rw [hA5]; simp only [ne_eq, Int.add_right_inj, Int.reduceEq, not_false_eq_true, st2_n, st2_s, u1_s, u1_u1]; exact w4
    · refine fin _ A6 (by rw [if_pos hz]) (by omega) (by omega) ?_ ?_ ?_ ?_ ?_
      · rw [hA6]; simp only [ne_eq, Int.add_right_inj, Int.reduceEq, not_false_eq_true, st2_n, st2_s, u1_s, u1_u1, r2]
      · rw [hA6]; simp only [ne_eq, Int.add_right_inj, Int.reduceEq, not_false_eq_true, st2_n, st2_s, u1_s, u1_u1, r3]
      · rw [hA6]; exact x4.a (by omega) (by omega) (by omega) (by omega)
      · rw [hA6]; exact x4c.a (by omega)
      · rw [hA6]; simp only [ne_eq, Int.add_right_inj, Int.reduceEq, not_false_eq_true, st2_n, st2_s, u1_s, u1_u1]; exact w4
