/-! THE REFERENCE'S SECOND, to its end -/
def XRows (P s : Fn2) (C : Nat → Option (List Int)) (n : Int) (A : Fn2) : Prop := ∀ r, 0 ≤ r → r < n → A 403 r = lwAt (LwF C 0) P s r ∧ A 404 r = lwAt (LwF C 1) P s r ∧ A 401 r = stmR P (lwAt (LwF C 0) P s) s r
theorem x_boilA {X : Int × (Int → Int)} {k : Nat} {Q : Vv → Fn2 → Fn2 → Fn2 → Prop} {F A R : Fn2} {b t c a g K r : Int} {P s : Fn2} {C : Nat → Option (List Int)} (hR : RS R) (hP : WFP P) (hI : Iv P K t c a g s) (hE : XE b P C F A) (hs : XS s F A) (h0 : 0 ≤ r) (hr : r < P 0 0) (hq : ∀ S', Q (vI (lwAt (LwF C 0) P s r)) F (up2 A 396 S') R) : Wp X (k + 4) m_X11_boilOf [vA 373, vI r] F A R Q := by
  have hw := hE.rw hs hP hI
  obtain ⟨a1, a2, a3, a4, a5, a6⟩ := hE
  refine x_boilOf (C := C) hR hw h0 (by rw [a1, a4]; exact hr) a6 fun S' => ?_
  rw [a1, a4, hs.1, hs.2.1]
  exact hq S'
theorem x_steamL {X : Int × (Int → Int)} {k : Nat} {Q : Vv → Fn2 → Fn2 → Fn2 → Prop} {R : Fn2} {b t a g K c : Int} {P : Fn2} {C : Nat → Option (List Int)} (hR : RS R) (hP : WFP P) {s : Fn2} (hI : Iv P K t c a g s) (hK : K ≤ 41000000) : ∀ (m : Nat) (j : Int) (F A : Fn2) (w2 : Vv), XE b P C F A → XS s F A → 0 ≤ j → j + m = P 0 0 → XRows P s C j A → (∀ A' w2, XS s F A' → XX F A F A' → XRows P s C (P 0 0) A' → G X (k + 4) m_X11_steamAll Q 110 [vA 373, vI (P 0 0 - 1), w2] [] F A' R) → G X (k + 4) m_X11_steamAll Q 2 [vA 373, vI j, w2] [] F A R
  | 0, j, F, A, w2, hE, hs, hj, hm, hco, hq => by
    have hrr := hP.1
    refine b_X11_steamAll_2 hR ?_
    rw [hE.2.2.2.2.1]
    refine ⟨fun _ => ⟨by omega, fun g1 hg1 => ?_⟩, fun hx => by omega⟩
    subst hg1
    exact hq A w2 hs XX.refl (fun r a b => hco r a (by omega))
  | m + 1, j, F, A, w2, hE, hs, hj, hm, hco, hq => by
    have hrr := hP.1
    have hjr : j < P 0 0 := by omega
    obtain ⟨a1, a2, a3, a4⟩ := hI.1.1 j hj (by omega)
    have p2 := (hP.2.1 j hj hjr).2.1
    have a3 := a3 hjr
    have hot := hI.hot hP hj (show j < 8 by omega)
    have hB := (LwF_ok (C := C) (P 3 j) (abv (P 8) (s 0) 8 j) (s 0 j) (wmf (s 0 j) (s 1 j)))
    have hB0 : 1 ≤ lwAt (LwF C 0) P s j ∧ lwAt (LwF C 0) P s j ≤ 999 := ⟨hB.1, hB.2.1⟩
    have hmu := mul_b (x := lwAt (LwF C 0) P s j) (y := s 0 j) (by omega) hB0.2 a1 (b := 99) (by omega)
    refine b_X11_steamAll_2 hR ?_
    rw [hE.2.2.2.2.1]
    refine ⟨fun hx => by omega, fun _ => ?_⟩
    refine x_boilA (k := k) hR hP hI hE hs hj hjr fun S' => ?_
    refine b_X11_steamAll_20 hR (by decide +kernel) (show Y1.2.1 403 = 8 by decide +kernel) ⟨hj, by omega, fun A1 hA1 => ?_⟩
    have x1 : XX F A F A1 := by rw [hA1]; exact XX.refl.s.a (by omega) (by omega) (by omega) (by omega)
    have hE1 := hE.xx x1
    have hs1 : XS s F A1 := by rw [hA1]; exact hs.s.c (by omega)
    -- once the lift stands
    have lif : ∀ A2, XX F A F A2 → XS s F A2 → A2 403 = u1 (A 403) j (lwAt (LwF C 0) P s j) → A2 404 = u1 (A 404) j (lwAt (LwF C 1) P s j) → A2 401 = A 401 → ∀ A3 w, A3 = st2 A2 401 j (stmR P (lwAt (LwF C 0) P s) s j) → G X (k + 4) m_X11_steamAll Q 2 [vA 373, vI (j + 1), w] [] F A3 R := by
      intro A2 x2 hs2 r3 r4 r1 A3 w hA3
      have x3 : XX F A F A3 := by rw [hA3]; exact x2.a (by omega) (by omega) (by omega) (by omega)
      refine x_steamL hR hP hI hK m (j + 1) F A3 w (hE.xx x3) (by rw [hA3]; exact hs2.c (by omega)) (by omega) (by omega) (fun r z0 z1 => ?_) fun A' w2 v1 v2 v3 => hq A' w2 v1 (x3.trans v2) v3
      rw [hA3, st2_n (by decide), st2_n (by decide), st2_s, r3, r4, r1]
      by_cases e : r = j
      · subst e; rw [u1_s, u1_s, u1_s]; exact ⟨rfl, rfl, rfl⟩
      · rw [u1_n e, u1_n e, u1_n e]; exact hco r z0 (by omega)
    -- the steam, from the heat beyond
    have ste : ∀ A2, XX F A F A2 → XS s F A2 → A2 403 = u1 (A 403) j (lwAt (LwF C 0) P s j) → A2 404 = u1 (A 404) j (lwAt (LwF C 1) P s j) → A2 401 = A 401 → 0 ≤ j ∧ j < 8 ∧ (-2147483648 ≤ A2 403 j * A2 398 j ∧ A2 403 j * A2 398 j ≤ 2147483647) ∧ (-2147483648 ≤ A2 399 j - A2 403 j * A2 398 j ∧ A2 399 j - A2 403 j * A2 398 j ≤ 2147483647) ∧ (∀ g3 : Int, g3 = A2 399 j - A2 403 j * A2 398 j → ((¬ 0 < g3 → (∀ A4 : Fn2, A4 = st2 A2 401 j 0 → ((-2147483648 ≤ j + 1 ∧ j + 1 ≤ 2147483647) ∧ G X (k + 4) m_X11_steamAll Q 2 [vA 373, vI (j + 1), vI g3] [] F A4 R))) ∧ (0 < g3 → (0 ≤ g3 ∧ Wp X (k + 4) m_X11_lesser [vI (g3 / 50), vI (A2 398 j)] F A2 R (fun v F A R => G X (k + 4) m_X11_steamAll Q 92 [vA 373, vI j, vI g3] [v, vI j, vA 401] F A R))))) := by
      intro A2 x2 hs2 r3 r4 r1
      have q3 : A2 403 j = lwAt (LwF C 0) P s j := by rw [r3, u1_s]
      rw [q3, hs2.1, hs2.2.1]
      refine ⟨hj, by omega, by omega, by omega, fun g3 hg3 => ⟨fun hz A4 hA4 => ⟨by omega, ?_⟩, fun hz => ⟨by omega, x_lesser (k := k + 3) ?_⟩⟩⟩
      · refine lif A2 x2 hs2 r3 r4 r1 A4 _ ?_
        rw [hA4]; unfold stmR
        rw [show min (s 0 j) (max 0 (s 1 j - lwAt (LwF C 0) P s j * s 0 j) / 50) = 0 by omega]
      · refine b_X11_steamAll_92 (by decide +kernel) (show Y1.2.1 401 = 8 by decide +kernel) ⟨hj, by omega, fun A4 hA4 => ⟨by omega, ?_⟩⟩
        refine lif A2 x2 hs2 r3 r4 r1 A4 _ ?_
        rw [hA4]; unfold stmR
        rw [show min (s 0 j) (max 0 (s 1 j - lwAt (LwF C 0) P s j * s 0 j) / 50) = min (g3 / 50) (s 0 j) by omega]
    refine ⟨fun hz => ⟨hj, by omega, fun A2 hA2 => ?_⟩, fun hz => ?_⟩
    · refine (ste A2 (by rw [hA2]; exact x1.a (by omega) (by omega) (by omega) (by omega)) (by rw [hA2]; exact hs1.c (by omega)) ?_ ?_ ?_).2.2
      · rw [hA2, st2_n (by decide), hA1, st2_s, up2_n (by decide)]
      · rw [hA2, st2_s, (x_law0 hE1.2.2.2.2.2).1 hz, hA1, st2_n (by decide), up2_n (by decide)]
      · rw [hA2, st2_n (by decide), hA1, st2_n (by decide), up2_n (by decide)]
    · refine x_lawI (k := k + 1) (i := 1) hR hP hI hE1 hs1 hj hjr (Or.inl ⟨rfl, rfl, rfl⟩) hz fun S2 => ?_
      refine b_X11_steamAll_44 hR (by decide +kernel) (show Y1.2.1 404 = 8 by decide +kernel) ⟨hj, by omega, fun A2 hA2 => ?_⟩
      refine ste A2 (by rw [hA2]; exact x1.s.a (by omega) (by omega) (by omega) (by omega)) (by rw [hA2]; exact hs1.s.c (by omega)) ?_ ?_ ?_
      · rw [hA2, st2_n (by decide), up2_n (by decide), hA1, st2_s, up2_n (by decide)]
      · rw [hA2, st2_s, up2_n (by decide), hA1, st2_n (by decide), up2_n (by decide)]
      · rw [hA2, st2_n (by decide), up2_n (by decide), hA1, st2_n (by decide), up2_n (by decide)]
theorem XRows.xc {P s A A' : Fn2} {C : Nat → Option (List Int)} {n m : Int} (h : XRows P s C n A) (hm : m ≤ n) (hs : ∀ r, 0 ≤ r → r < m → A' 403 r = A 403 r ∧ A' 404 r = A 404 r ∧ A' 401 r = A 401 r) : XRows P s C m A' := by
  intro r a b
  obtain ⟨h1, h2, h3⟩ := hs r a b
  rw [h1, h2, h3]
  exact h r a (by omega)
theorem x_downL {X : Int × (Int → Int)} {k : Nat} {Q : Vv → Fn2 → Fn2 → Fn2 → Prop} {R : Fn2} {b K c : Int} {P s0 : Fn2} {C : Nat → Option (List Int)} (hR : RS R) (hP : WFP P) (hK : K ≤ 41000000) (h0 : ∀ r, 0 ≤ r → r < P 0 0 → 0 ≤ stmR P (lwAt (LwF C 0) P s0) s0 r) : ∀ (n : Nat) (t a g : Int) (s F A : Fn2) (w2 : Vv), XE b P C F A → XS s F A → Iv P K t c a g s → t + 240 * n ≤ 100000000 → g + 99 * n ≤ 100000000 → (n : Int) ≤ P 0 0 → XRows P s0 C n A → (∀ F' A', XS (lpd (stmS P (lwAt (LwF C 0) P s0) (lwAt (LwF C 1) P s0) (stmR P (lwAt (LwF C 0) P s0) s0)) n s) F' A' → XX F A F' A' → Q vN F' A' R) → G X (k + 3) m_X11_steamAll Q 110 [vA 373, vI ((n : Int) - 1), w2] [] F A R
  | 0, t, a, g, s, F, A, w2, hE, hs, hI, ht, hg, hm, hco, hq => by
    refine b_X11_steamAll_110 hR ⟨fun _ => hq F A hs XX.refl, fun hx => by omega⟩
  | n + 1, t, a, g, s, F, A, w2, hE, hs, hI, ht, hg, hm, hco, hq => by
    have hrr := hP.1
    have ej : ((n + 1 : Nat) : Int) - 1 = n := by omega
    rw [ej]
    have hjr : (n : Int) < P 0 0 := by omega
    have hj : (0 : Int) ≤ n := by omega
    have hs' := hs
    obtain ⟨e0, e1, e2, f5, f6, f8⟩ := hs'
    obtain ⟨a1, a2, a3, a4⟩ := hI.1.1 n hj (by omega)
    obtain ⟨p1, p2, p3, p4, p5, p6, p7, p8, -⟩ := hP.2.1 n hj hjr
    have a3 := a3 hjr
    have hot := hI.hot hP hj (show (n : Int) < 8 by omega)
    have hk := hI.2.2
    unfold Bk at hk
    obtain ⟨r23, r24, r26⟩ := hco n hj (by omega)
    have h0n := h0 n hj hjr
    have hB := (LwF_ok (C := C) (P 3 n) (abv (P 8) (s0 0) 8 n) (s0 0 n) (wmf (s0 0 n) (s0 1 n)))
    have hB0 : 1 ≤ lwAt (LwF C 0) P s0 n ∧ lwAt (LwF C 0) P s0 n ≤ 999 := ⟨hB.1, hB.2.1⟩
    have hL0 : 0 ≤ lwAt (LwF C 1) P s0 n ∧ lwAt (LwF C 1) P s0 n ≤ 30 := ⟨hB.2.2.1, hB.2.2.2.1⟩
    have hI' := hI.stm (r := n) (Bl := lwAt (LwF C 0) P s0) (Lf := lwAt (LwF C 1) P s0) (St := stmR P (lwAt (LwF C 0) P s0) s0) hP hj hjr hB0.1 h0n
    have hb := hE.1
    have hb2 : 0 ≤ b ∧ b ≤ 4 := ⟨hE.2.1, hE.2.2.1⟩
    refine b_X11_steamAll_110 hR ⟨fun hx => by omega, fun _ => ⟨hj, by omega, x_lesser (k := k + 2) ?_⟩⟩
    rw [r26, e0]
    have unf0 : ∀ g1, g1 = min (stmR P (lwAt (LwF C 0) P s0) s0 n) (s 0 n) → stmS P (lwAt (LwF C 0) P s0) (lwAt (LwF C 1) P s0) (stmR P (lwAt (LwF C 0) P s0) s0) n s = thrS P (lwAt (LwF C 1) P s0 n * g1) 8 (P 8 n) (st2 (st2 (st2 s 0 n (s 0 n - g1)) 1 n (max 0 (s 1 n - (lwAt (LwF C 0) P s0 n + 50) * g1))) 9 18 (s 9 18 + g1)) := by
      intro g1 hg1
      unfold stmS; rw [← hg1]
    have unf := unf0 _ rfl
    have hg0 : 0 ≤ min (stmR P (lwAt (LwF C 0) P s0) s0 n) (s 0 n) ∧ min (stmR P (lwAt (LwF C 0) P s0) s0 n) (s 0 n) ≤ s 0 n ∧ min (stmR P (lwAt (LwF C 0) P s0) s0 n) (s 0 n) ≤ 99 := by omega
    generalize min (stmR P (lwAt (LwF C 0) P s0) s0 n) (s 0 n) = g1 at *
    clear unf0
    have hmu := mul_b (x := lwAt (LwF C 0) P s0 n + 50) (y := g1) (by omega) (show _ ≤ 1049 by omega) hg0.1 hg0.2.2
    have hml := mul_b (x := lwAt (LwF C 1) P s0 n) (y := g1) hL0.1 hL0.2 hg0.1 hg0.2.2
    refine b_X11_steamAll_134 hR (by decide +kernel) (show Y1.2.1 401 = 8 by decide +kernel) ⟨hj, by omega, fun A1 hA1 => ?_⟩
    have q1 : A1 401 = u1 (A 401) n g1 := by rw [hA1, st2_s]
    have q2 : A1 398 = s 0 := by rw [hA1]; simp only [ne_eq, Int.add_right_inj, Int.reduceEq, not_false_eq_true, st2_n, st2_s, u1_s, u1_u1]; exact e0
    rw [q1, q2, u1_s, f8]
    refine ⟨hj, by omega, by omega, fun A2 hA2 => ?_⟩
    have q3 : A2 401 = u1 (A 401) n g1 := by rw [hA2]; simp only [ne_eq, Int.add_right_inj, Int.reduceEq, not_false_eq_true, st2_n, st2_s, u1_s, u1_u1]; exact q1
    have q4 : A2 403 n = lwAt (LwF C 0) P s0 n := by rw [hA2, hA1]; simp only [ne_eq, Int.add_right_inj, Int.reduceEq, not_false_eq_true, st2_n, st2_s, u1_s, u1_u1]; exact r23
    have q5 : A2 399 = s 1 := by rw [hA2, hA1]; simp only [ne_eq, Int.add_right_inj, Int.reduceEq, not_false_eq_true, st2_n, st2_s, u1_s, u1_u1]; exact e1
    rw [q3, q4, q5, u1_s]
    refine ⟨by omega, fun F3 hF3 => ⟨by omega, by omega, x_lesser (k := k + 2) ?_⟩⟩
    refine b_X11_steamAll_197 hR (by decide +kernel) (show Y1.2.1 399 = 8 by decide +kernel) ⟨by omega, hj, by omega, fun A3 hA3 => ⟨hj, by omega, ?_⟩⟩
    have q6 : A3 401 = u1 (A 401) n g1 := by rw [hA3]; simp only [ne_eq, Int.add_right_inj, Int.reduceEq, not_false_eq_true, st2_n, st2_s, u1_s, u1_u1]; exact q3
    have q7 : A3 404 = A 404 := by rw [hA3, hA2, hA1]; simp only [ne_eq, Int.add_right_inj, Int.reduceEq, not_false_eq_true, st2_n, st2_s, u1_s, u1_u1]
    have q8 : A3 403 = A 403 := by rw [hA3, hA2, hA1]; simp only [ne_eq, Int.add_right_inj, Int.reduceEq, not_false_eq_true, st2_n, st2_s, u1_s, u1_u1]
    rw [q6, u1_s, q7, r24]
    have x3 : XX F A F3 A3 := by rw [hF3, hA3, hA2, hA1]; exact (((XX.refl.a (by omega) (by omega) (by omega) (by omega)).a (by omega) (by omega) (by omega) (by omega)).a (by omega) (by omega) (by omega) (by omega)).f (by omega) (by omega) (by omega)
    have hE3 := hE.xx x3
    have est : XS (st2 (st2 (st2 s 0 n (s 0 n - g1)) 1 n (max 0 (s 1 n - (lwAt (LwF C 0) P s0 n + 50) * g1))) 9 18 (s 9 18 + g1)) F3 A3 := by
      refine ⟨?_, ?_, ?_, ?_, ?_, ?_⟩
      · rw [hA3, hA2]; simp only [ne_eq, Int.add_right_inj, Int.reduceEq, not_false_eq_true, st2_n, st2_s, u1_s, u1_u1, q2]
      · rw [hA3, st2_s, q5]; simp only [ne_eq, Int.add_right_inj, Int.reduceEq, not_false_eq_true, st2_n, st2_s, u1_s, u1_u1]
        rw [show s 1 n - min (s 1 n) ((lwAt (LwF C 0) P s0 n + 50) * g1) = max 0 (s 1 n - (lwAt (LwF C 0) P s0 n + 50) * g1) by omega]
      · rw [hA3, hA2, hA1]; simp only [ne_eq, Int.add_right_inj, Int.reduceEq, not_false_eq_true, st2_n, st2_s, u1_s, u1_u1]; exact e2
      · rw [hF3]; simp only [ne_eq, Int.add_right_inj, Int.reduceEq, not_false_eq_true, st2_n, st2_s, u1_s, u1_u1, u1_n]; exact f5
      · rw [hF3]; simp only [ne_eq, Int.add_right_inj, Int.reduceEq, not_false_eq_true, st2_n, st2_s, u1_s, u1_u1, u1_n]; exact f6
      · rw [hF3]; simp only [ne_eq, Int.add_right_inj, Int.reduceEq, not_false_eq_true, st2_n, st2_s, u1_s, u1_u1]
    have hIs := Iv.put (w := s 0 n - g1) (h := max 0 (s 1 n - (lwAt (LwF C 0) P s0 n + 50) * g1)) hI hP hj hjr (by omega) (by omega) (by omega)
    have hIs := hIs.mono (K' := K) (by
      have : 51 * g1 ≤ (lwAt (LwF C 0) P s0 n + 50) * g1 := Int.mul_le_mul_of_nonneg_right (by omega) hg0.1
      unfold pp; omega) (Int.le_refl _) (Int.le_refl _) (Int.le_refl _) (Int.le_refl _)
    have hIs := hIs.o918 (x := g1) hg0.1
    have e9 : s 9 18 = (st2 (st2 s 0 n (s 0 n - g1)) 1 n (max 0 (s 1 n - (lwAt (LwF C 0) P s0 n + 50) * g1))) 9 18 := by rw [st2_n (by decide), st2_n (by decide)]
    rw [← e9] at hIs
    -- on to the next room
    have nx : ∀ F5 A5 w, XS (stmS P (lwAt (LwF C 0) P s0) (lwAt (LwF C 1) P s0) (stmR P (lwAt (LwF C 0) P s0) s0) n s) F5 A5 → XX F3 A3 F5 A5 → XC A3 A5 → G X (k + 3) m_X11_steamAll Q 226 [vA 373, vI n, w] [] F5 A5 R := by
      intro F5 A5 w y1 y2 y3
      have x5 := x3.trans y2
      refine b_X11_steamAll_226 ⟨by omega, ?_⟩
      refine x_downL hR hP hK h0 n (t + 240) (a + 240) (g + 99) _ F5 A5 _ (hE.xx x5) y1 hI' (by omega) (by omega) (by omega) (hco.xc (by omega) fun r z0 z1 => ?_) fun F' A' z1 z2 => hq F' A' z1 (x5.trans z2)
      rw [y3 403 (by omega) (by omega), y3 404 (by omega) (by omega), y3 401 (by omega) (by omega), q6, q7, q8, u1_n (by omega)]
      exact ⟨rfl, rfl, rfl⟩
    by_cases hmz : lwAt (LwF C 1) P s0 n * g1 ≤ 0
    · have e7 : lwAt (LwF C 1) P s0 n * g1 = 0 := by omega
      rw [e7] at unf ⊢
      have e8 : ∀ f u x, thrS P 0 f u x = x := by
        intro f u x
        cases f with
        | zero => rfl
        | succ f => unfold thrS; rw [if_pos (Or.inr (by omega))]
      rw [e8] at unf
      rw [← unf] at est
      have nx2 : ∀ w, G X (k + 3) m_X11_steamAll Q 226 [vA 373, vI n, w] [] F3 A3 R := fun w => nx F3 A3 w est XX.refl XC.refl
      refine ⟨fun _ => nx2 _, fun _ => ⟨by omega, ?_⟩⟩
      rw [unf] at est
      refine Wp.of (k := k + 2) [vA 373, vI n, vI 0, vN, vN, vN, vN, vN] rfl rfl rfl ?_
      refine b_X11_throwUp_0 hR ?_
      have hp := hE3.p (r := n)
      rw [hE3.1, hp.2.2.2.1]
      refine ⟨by omega, by omega, by omega, by omega, fun u hu => ?_⟩
      subst hu
      exact x_throw0 (k := k + 1) hR hP hIs hE3 est hK (by omega) (nx2 _) 8 (P 8 n) _ _ _ _ (by omega) (by omega)
    · have hgp : 0 < g1 := by
        rcases Int.lt_or_le 0 g1 with h | h
        · exact h
        · have : g1 = 0 := by omega
          rw [this] at hmz; simp at hmz
      refine ⟨fun hx => absurd hgp hx, fun _ => ⟨by omega, ?_⟩⟩
      refine Wp.of (k := k + 2) [vA 373, vI n, vI (lwAt (LwF C 1) P s0 n * g1), vN, vN, vN, vN, vN] rfl rfl rfl ?_
      refine b_X11_throwUp_0 hR ?_
      have hp := hE3.p (r := n)
      rw [hE3.1, hp.2.2.2.1]
      refine ⟨by omega, by omega, by omega, by omega, fun u hu => ?_⟩
      subst hu
      refine x_throwL (k := k + 1) hR hP hK (by omega) 8 (P 8 n) t a _ F3 A3 _ _ _ _ hE3 est hIs (by omega) (by omega) (by omega) fun F5 A5 y1 y2 y3 => ?_
      rw [← unf] at y1
      exact nx F5 A5 _ y1 y2 y3
theorem x_poolL {X : Int × (Int → Int)} {k : Nat} {Q : Vv → Fn2 → Fn2 → Fn2 → Prop} {R : Fn2} {b K t c g : Int} {P : Fn2} {C : Nat → Option (List Int)} (hR : RS R) (hP : WFP P) (hK : K ≤ 41000000) : ∀ (m : Nat) (j a : Int) (s F A : Fn2) (w2 w3 w4 : Vv), XE b P C F A → XS s F A → F 373 53 = s 9 17 → Iv P K t c a g s → a + 99 * m ≤ 100000000 → 0 ≤ j → j + m = P 0 0 → (∀ F' A', XS (lp (poolS P) m j s) F' A' → F' 373 53 = (lp (poolS P) m j s) 9 17 → (∀ x f, x ≠ 373 ∨ f < 51 ∨ 54 < f → F' x f = F x f) → (∀ a, a < 396 ∨ 404 < a ∨ a = 397 ∨ a = 400 → A' a = A a) → Q vN F' A' R) → G X (k + 1) m_X11_poolAll Q 2 [vA 373, vI j, w2, w3, w4] [] F A R
  | 0, j, a, s, F, A, w2, w3, w4, hE, hs, h53, hI, ha, hj, hm, hq => by
    refine b_X11_poolAll_2 hR ⟨fun _ => hq F A hs h53 (fun _ _ _ => rfl) (fun _ _ => rfl), fun hx => ?_⟩
    rw [hE.2.2.2.2.1] at hx; omega
  | m + 1, j, a, s, F, A, w2, w3, w4, hE, hs, h53, hI, ha, hj, hm, hq => by
    have hrr := hP.1
    have hjr : j < P 0 0 := by omega
    obtain ⟨a1, a2, a3, a4⟩ := hI.1.1 j hj (by omega)
    obtain ⟨p1, p2, p3, p4, p5, p6, -⟩ := hP.2.1 j hj hjr
    have a3 := a3 hjr
    have hot := hI.hot hP hj (show j < 8 by omega)
    have hk := hI.2.2
    unfold Bk at hk
    have hI' := hI.pool (r := j) hP hj hjr
    have hs' := hs
    obtain ⟨e0, e1, e2, f5, f6, f8⟩ := hs'
    have hb := hE.1
    have hb2 : 0 ≤ b ∧ b ≤ 4 := ⟨hE.2.1, hE.2.2.1⟩
    have hp := hE.p (r := j)
    have no : ∀ w2, ¬ (P 1 j = 2 ∧ P 4 j ≤ s 0 j) → G X (k + 1) m_X11_poolAll Q 2 [vA 373, vI (j + 1), w2, w3, w4] [] F A R := fun w2 hn => by
      have e : poolS P j s = s := by unfold poolS; rw [if_neg hn]
      have el : lp (poolS P) (m + 1) j s = lp (poolS P) m (j + 1) s := by
        show lp (poolS P) m (j + 1) (poolS P j s) = _
        rw [e]
      rw [el] at hq
      exact x_poolL hR hP hK m (j + 1) (a + 99) s F A w2 w3 w4 hE hs h53 (by rw [e] at hI'; exact hI') (by omega) (by omega) (by omega) hq
    refine b_X11_poolAll_2 hR ⟨fun hx => ?_, fun _ => ?_⟩
    · rw [hE.2.2.2.2.1] at hx; omega
    rw [hb]
    refine ⟨by omega, by omega, fun g1 hg1 => ?_⟩
    have hg1' := hg1.symm
    subst hg1'
    rw [hp.2.2.2.2.1, hp.1, e0]
    refine ⟨by omega, by omega, fun hz => ⟨by omega, no _ (by omega)⟩, fun hz => ⟨hj, by omega, fun hz2 => ⟨by omega, by omega, fun g2 hg2 => ?_⟩, fun hz2 => ⟨by omega, no _ (by omega)⟩⟩⟩
    have hd := dvr a2 (n := g2) (w := s 0 j) (by omega) (by omega)
    refine x_take (k := k) hR hs hj (by omega) (by omega) (by omega) (by omega) (by omega) a2 (by omega) fun A' hs' hX hsc _ => ?_
    obtain ⟨t0, t1, t2, t5, t6, t8⟩ := hs'
    have e : poolS P j s = st2 (tkS j g2 s) 9 17 (s 9 17 + g2) := by unfold poolS; rw [if_pos ⟨hz, by omega⟩, hg2]
    refine b_X11_poolAll_70 ?_
    rw [h53]
    refine ⟨by omega, fun F1 hF1 => ⟨by omega, ?_⟩⟩
    have hF1' : ∀ x f, x ≠ 373 ∨ f < 51 ∨ 54 < f → F1 x f = F x f := fun x f h3 => by
      rw [hF1]
      by_cases e : x = 373
      · subst e; rw [st2_s, u1_n (by omega)]
      · rw [st2_n e]
    have hE5 : XE b P C F1 A' := by
      have h5 := hE.xx hX
      refine ⟨?_, h5.2.1, h5.2.2.1, h5.2.2.2.1, ?_, h5.2.2.2.2.2⟩
      · rw [hF1' _ _ (by omega)]; exact hE.1
      · rw [hF1' _ _ (by omega)]; exact hE.2.2.2.2.1
    refine x_poolL hR hP hK m (j + 1) (a + 99) (poolS P j s) F1 A' _ _ _ hE5 ?_ ?_ hI' (by omega) (by omega) (by omega) fun F' A'' y1 y2 y3 y4 => hq F' A'' y1 y2 (fun x f h3 => (y3 x f h3).trans (hF1' x f h3)) (fun z h3 => (y4 z h3).trans (hX.1 z h3))
    · rw [e]
      refine ⟨?_, ?_, ?_, ?_, ?_, ?_⟩
      · simp only [ne_eq, Int.add_right_inj, Int.reduceEq, not_false_eq_true, st2_n, st2_s, u1_s, u1_u1]; exact t0
      · simp only [ne_eq, Int.add_right_inj, Int.reduceEq, not_false_eq_true, st2_n, st2_s, u1_s, u1_u1]; exact t1
      · simp only [ne_eq, Int.add_right_inj, Int.reduceEq, not_false_eq_true, st2_n, st2_s, u1_s, u1_u1]; exact t2
      · rw [hF1]; simp only [ne_eq, Int.add_right_inj, Int.reduceEq, not_false_eq_true, st2_n, st2_s, u1_s, u1_u1, u1_n]; exact t5
      · rw [hF1]; simp only [ne_eq, Int.add_right_inj, Int.reduceEq, not_false_eq_true, st2_n, st2_s, u1_s, u1_u1, u1_n]; exact t6
      · rw [hF1]; simp only [ne_eq, Int.add_right_inj, Int.reduceEq, not_false_eq_true, st2_n, st2_s, u1_s, u1_u1, u1_n]; exact t8
    · rw [e, hF1]; simp only [ne_eq, Int.add_right_inj, Int.reduceEq, not_false_eq_true, st2_n, st2_s, u1_s, u1_u1]
/-- what goes to the air is what is thrown, while there is spouting -/
def dAT (s : Fn2) : Int := s 9 17 - s 9 15
theorem tk9 {a n i : Int} {s : Fn2} : tkS a n s 9 i = s 9 i := by rw [tkS_r (by decide) (by decide)]
theorem gv9 {a w h i : Int} {s : Fn2} : gvS a w h s 9 i = s 9 i := by rw [gvS_r (by decide) (by decide)]
theorem dAT_fill {P : Fn2} {cw r : Int} {Cl : Int → Int} {s : Fn2} : dAT (fillS P cw Cl r s) = dAT s := by
  unfold dAT fillS; simp only [ne_eq, Int.add_right_inj, Int.reduceEq, not_false_eq_true, st2_n, st2_s, u1_s, u1_u1, u1_n]
theorem dAT_join {P : Fn2} {j : Int} {s : Fn2} : dAT (joinS P j s) = dAT s := by
  unfold dAT joinS; rw [gv9, gv9, tk9, tk9]
theorem dAT_if {c : Prop} [Decidable c] {x y : Fn2} {d : Int} (hx : dAT x = d) (hy : dAT y = d) : dAT (if c then x else y) = d := by
  split <;> assumption
theorem dAT_thr {P : Fn2} {many : Int} : ∀ (f : Nat) (u : Int) (s : Fn2), dAT (thrS P many f u s) = dAT s
  | 0, u, s => rfl
  | f + 1, u, s => by
    unfold thrS
    split
    · rfl
    · dsimp only
      rw [dAT_thr f]
      apply dAT_if
      · unfold dAT; rw [gv9, gv9]; simp only [ne_eq, Int.add_right_inj, Int.reduceEq, not_false_eq_true, st2_n, st2_s, u1_s, u1_u1, u1_n, tk9]; omega
      · unfold dAT; simp only [ne_eq, Int.add_right_inj, Int.reduceEq, not_false_eq_true, st2_n, st2_s, u1_s, u1_u1, u1_n, tk9]; omega
theorem dAT_stm {P : Fn2} {Bl Lf St : Int → Int} {r : Int} {s : Fn2} : dAT (stmS P Bl Lf St r s) = dAT s := by
  unfold stmS; dsimp only
  rw [dAT_thr]
  unfold dAT; simp only [ne_eq, Int.add_right_inj, Int.reduceEq, not_false_eq_true, st2_n, st2_s, u1_s, u1_u1, u1_n]
theorem dAT_lp {f : Int → Fn2 → Fn2} (h : ∀ i s, dAT (f i s) = dAT s) : ∀ (n : Nat) (i : Int) (s : Fn2), dAT (lp f n i s) = dAT s
  | 0, _, _ => rfl
  | n + 1, i, s => by
    show dAT (lp f n (i + 1) (f i s)) = _
    rw [dAT_lp h n, h]
theorem dAT_lpd {f : Int → Fn2 → Fn2} (h : ∀ i s, dAT (f i s) = dAT s) : ∀ (n : Nat) (s : Fn2), dAT (lpd f n s) = dAT s
  | 0, _ => rfl
  | n + 1, s => by
    show dAT (lpd f n (f n s)) = _
    rw [dAT_lpd h n, h]
theorem dAT_spout {P : Fn2} {L : Nat → Lw4} {cw jn : Int} {s : Fn2} : dAT (spoutA P L (joinA P jn (fillA P L cw s))) = dAT s := by
  unfold spoutA
  rw [dAT_lpd (fun _ _ => dAT_stm)]
  have : dAT (joinA P jn (fillA P L cw s)) = dAT (fillA P L cw s) := by
    unfold joinA
    split
    · rfl
    · rw [dAT_lp (fun _ _ => dAT_join)]
  rw [this]
  unfold fillA
  rw [dAT_lp (fun _ _ => dAT_fill)]
/-- a whole second of the reference -/
theorem x_tick {X : Int × (Int → Int)} {k : Nat} {Q : Vv → Fn2 → Fn2 → Fn2 → Prop} {F A R : Fn2} {b t a g K c cw jn : Int} {P s : Fn2} {C : Nat → Option (List Int)} (hR : RS R) (hP : WFP P) (hI : Iv P K t c a g s) (hK : K + 19512 ≤ 41000000) (hc : c ≤ 80000000) (ha : a ≤ 80000000) (hg : g ≤ 80000000) (hE : XE b P C F A) (hs : XS s F A) (h53 : F 373 53 = s 9 17) (h55 : F 373 55 = cw) (hcw : 0 ≤ cw) (hcw2 : cw ≤ 99) (h57 : F 373 57 = jn) (h50 : 0 ≤ F 373 50) (h50' : F 373 50 ≤ 100000)
    (hq : ∀ F' A', XS (tick0 P (LwF C) cw jn s) F' A' → F' 373 53 = (tick0 P (LwF C) cw jn s) 9 17 → F' 373 50 = F 373 50 + 1 → (∀ x f, x ≠ 373 ∨ f < 50 ∨ 54 < f → F' x f = F x f) → (∀ a, a < 396 ∨ 404 < a ∨ a = 397 ∨ a = 400 → A' a = A a) → Q vN F' A' R) : Wp X (k + 6) m_X11_tick [vA 373] F A R Q := by
  have hrr := hP.1
  have er := rms_e hP
  have ej := jns_e hP
  refine Wp.of [vA 373] rfl rfl rfl (b_X11_tick_0 ⟨by omega, fun F1 hF1 F2 hF2 => ?_⟩)
  have hF2' : ∀ x f, x ≠ 373 ∨ f < 50 ∨ 51 < f → F2 x f = F x f := fun x f h3 => by
    rw [hF2, hF1]
    by_cases e : x = 373
    · subst e; rw [st2_s, u1_n (by omega), st2_s, u1_n (by omega)]
    · rw [st2_n e, st2_n e]
  have h2' : F2 373 50 = F 373 50 + 1 := by rw [hF2, hF1]; simp only [ne_eq, Int.add_right_inj, Int.reduceEq, not_false_eq_true, st2_n, st2_s, u1_s, u1_u1, u1_n]
  have hE2 : XE b P C F2 A := by
    refine ⟨?_, hE.2.1, hE.2.2.1, hE.2.2.2.1, ?_, hE.2.2.2.2.2⟩
    · rw [hF2' _ _ (by omega)]; exact hE.1
    · rw [hF2' _ _ (by omega)]; exact hE.2.2.2.2.1
  have hs2 : XS (st2 s 9 15 0) F2 A := by
    obtain ⟨e0, e1, e2, f5, f6, f8⟩ := hs
    rw [hF2, hF1]
    refine ⟨?_, ?_, ?_, ?_, ?_, ?_⟩ <;> simp only [ne_eq, Int.add_right_inj, Int.reduceEq, not_false_eq_true, st2_n, st2_s, u1_s, u1_u1, u1_n] <;> assumption
  have hI1 := hI.t0
  have hI2 := iv_fillA hI1 hP (LwF_ok (C := C)) hcw hcw2
  have hI3 := iv_joinA (jn := jn) hI2 hP
  have hI4 := iv_spoutA hI3 hP (LwF_ok (C := C))
  refine Wp.of (k := k + 4) [vA 373, vN, vN, vN] rfl rfl rfl (b_X11_fillAll_0 ?_)
  refine x_coolL (k := k + 1) hR hP hI1 (rms P) 0 F2 A vN vN hE2 hs2 (by omega) (by omega) (fun r z0 z1 => by omega) fun A1 w2 w3 y1 y2 y3 => ?_
  have F2c : F2 373 55 = cw := by rw [hF2' _ _ (by omega)]; exact h55
  refine x_fillL (k := k + 3) hR hP hcw hcw2 (fun r z0 z1 => ⟨(LwF_ok _ _ _ _).2.2.2.2.1, (LwF_ok _ _ _ _).2.2.2.2.2⟩) (rms P) 0 K c _ F2 A1 w2 w3 (hE2.xx y2) y1 F2c y3 hI1 (by omega) (by omega) (by omega) (by omega) fun F3 A3 z1 z2 => ?_
  have x3 := y2.trans z2
  have z1 : XS (fillA P (LwF C) cw (st2 s 9 15 0)) F3 A3 := z1
  -- behind the joins
  have aft : ∀ F4 A4, XS (joinA P jn (fillA P (LwF C) cw (st2 s 9 15 0))) F4 A4 → XX F2 A F4 A4 → G X (k + 5) m_X11_tick Q 30 [vA 373] [] F4 A4 R := by
    intro F4 A4 v1 v2
    have hE4 := hE2.xx v2
    refine b_X11_tick_30 (Wp.of (k := k + 4) [vA 373, vN, vN] rfl rfl rfl (b_X11_steamAll_0 ?_))
    refine x_steamL (k := k) hR hP hI3 (by omega) (rms P) 0 F4 A4 vN hE4 v1 (by omega) (by omega) (fun r z0 z1 => by omega) fun A5 w2 n1 n2 n3 => ?_
    have x5 := v2.trans n2
    have dn : ∀ F6 A6, XS (spoutA P (LwF C) (joinA P jn (fillA P (LwF C) cw (st2 s 9 15 0)))) F6 A6 → XX F4 A5 F6 A6 → G X (k + 5) m_X11_tick Q 34 [vA 373] [] F6 A6 R := by
      intro F6 A6 m1 m2
      have x6 := x5.trans m2
      have hE6 := hE2.xx x6
      have hk4 := hI4.2.2
      unfold Bk at hk4
      have e53 : F6 373 53 = s 9 17 := by rw [x6.2 _ _ (by omega), hF2' _ _ (by omega)]; exact h53
      have eAT := dAT_spout (P := P) (L := LwF C) (cw := cw) (jn := jn) (s := st2 s 9 15 0)
      have eAT2 : dAT (st2 s 9 15 0) = s 9 17 := by unfold dAT; simp only [ne_eq, Int.add_right_inj, Int.reduceEq, not_false_eq_true, st2_n, st2_s, u1_s, u1_u1, u1_n]; omega
      rw [eAT2] at eAT
      unfold dAT at eAT
      have m15 := m1.2.2.2.1
      have hI1k := hI1.2.2
      unfold Bk at hI1k
      have e17 : (st2 s 9 15 0) 9 17 = s 9 17 := by simp only [ne_eq, Int.add_right_inj, Int.reduceEq, not_false_eq_true, st2_n, st2_s, u1_s, u1_u1, u1_n]
      refine b_X11_tick_34 ?_
      rw [e53, m15]
      refine ⟨by omega, fun F7 hF7 => ?_⟩
      have hF7' : ∀ x f, x ≠ 373 ∨ f < 53 ∨ 53 < f → F7 x f = F6 x f := fun x f h3 => by
        rw [hF7]
        by_cases e : x = 373
        · subst e; rw [st2_s, u1_n (by omega)]
        · rw [st2_n e]
      have hE7 : XE b P C F7 A6 := by
        refine ⟨?_, hE6.2.1, hE6.2.2.1, hE6.2.2.2.1, ?_, hE6.2.2.2.2.2⟩
        · rw [hF7' _ _ (by omega)]; exact hE6.1
        · rw [hF7' _ _ (by omega)]; exact hE6.2.2.2.2.1
      refine Wp.of (k := k + 4) [vA 373, vN, vN, vN, vN] rfl rfl rfl (b_X11_poolAll_0 ?_)
      refine x_poolL (k := k + 3) hR hP (show K + 19512 ≤ 41000000 by omega) (rms P) 0 _ _ F7 A6 vN vN vN hE7 ?_ ?_ hI4 (by omega) (by omega) (by omega) fun F8 A8 o1 o2 o3 o4 => b_X11_tick_51 (hq F8 A8 o1 o2 ?_ ?_ ?_)
      · obtain ⟨m1', m2', m3', m4', m5', m6'⟩ := m1
        refine ⟨m1', m2', m3', ?_, ?_, ?_⟩
        · rw [hF7' _ _ (by omega)]; exact m4'
        · rw [hF7' _ _ (by omega)]; exact m5'
        · rw [hF7' _ _ (by omega)]; exact m6'
      · rw [hF7, st2_s, u1_s]; omega
      · rw [o3 _ _ (by omega), hF7' _ _ (by omega), x6.2 _ _ (by omega)]; exact h2'
      · intro x f h3
        rw [o3 _ _ (by omega), hF7' _ _ (by omega), x6.2 _ _ (by omega), hF2' _ _ (by omega)]
      · intro z h3
        rw [o4 z h3, x6.1 z h3]
    have hfin := x_downL (X := X) (k := k + 1) (Q := fun v F A R => G X (k + 5) m_X11_tick Q 34 [vA 373] [] F A R) hR hP (show K + 19512 ≤ 41000000 by omega) (fun r z0 z1 => stmR_0 (Bl := lwAt (LwF C 0) P (joinA P jn (fillA P (LwF C) cw (st2 s 9 15 0)))) hI3 z0 (by omega)) (rms P) _ _ _ _ F4 A5 w2 (hE2.xx x5) n1 hI3 (by omega) (by omega) (by omega) (by rw [er]; exact n3) fun F6 A6 m1 m2 => dn F6 A6 m1 m2
    rw [er] at hfin
    exact hfin
  have g57 : F3 373 57 = jn := by rw [x3.2 _ _ (by omega), hF2' _ _ (by omega)]; exact h57
  refine b_X11_tick_19 ?_
  rw [g57]
  refine ⟨fun hz => aft F3 A3 (by unfold joinA; rw [if_pos hz]; exact z1) x3, fun hz => ?_⟩
  have hE3 := hE2.xx x3
  refine Wp.of (k := k + 4) [vA 373, vN, vN, vN, vN] rfl rfl rfl (b_X11_joinAll_0 ?_)
  have hb3 := hE3.1
  have hbb : 0 ≤ b ∧ b ≤ 4 := ⟨hE3.2.1, hE3.2.2.1⟩
  rw [hb3]
  refine ⟨by omega, fun g1 hg1 => ?_⟩
  have eg : g1 = 4 * b + 0 := by omega
  rw [eg]
  refine x_joinL (k := k + 3) hR hP (show K + 19512 ≤ 41000000 by omega) (jns P) 0 _ F3 A3 vN vN vN hE3 z1 hI2 (by omega) (by omega) fun F4 A4 u1' u2' => ?_
  exact aft F4 A4 (by unfold joinA; rw [if_neg hz]; exact u1') (x3.trans u2')
