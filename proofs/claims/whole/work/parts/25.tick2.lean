/-! THE REFERENCE'S SECOND, on -/
theorem x_joinL {X : Int × (Int → Int)} {k : Nat} {Q : Vv → Fn2 → Fn2 → Fn2 → Prop} {R : Fn2} {b K t c a g : Int} {P : Fn2} {C : Nat → Option (List Int)} (hR : RS R) (hP : WFP P) (hK : K ≤ 41000000) : ∀ (m : Nat) (j : Int) (s F A : Fn2) (w2 w3 w4 : Vv), XE b P C F A → XS s F A → Iv P K t c a g s → 0 ≤ j → j + m = P 0 1 → (∀ F' A', XS (lp (joinS P) m j s) F' A' → XX F A F' A' → Q vN F' A' R) → G X (k + 1) m_X11_joinAll Q 7 [vA 373, vI (4 * b + j), w2, w3, w4] [] F A R
  | 0, j, s, F, A, w2, w3, w4, hE, hs, hI, hj, hm, hq => by
    have hb := hE.1
    have hb2 : 0 ≤ b ∧ b ≤ 4 := ⟨hE.2.1, hE.2.2.1⟩
    have hjn : A 378 b = P 0 1 := by rw [← hE.2.2.2.1, RPm_01]
    have hrr := hP.1
    refine b_X11_joinAll_7 hR ?_
    rw [hb, hjn]
    exact ⟨by omega, by omega, by omega, by omega, fun _ => hq F A hs XX.refl, fun hx => by omega⟩
  | m + 1, j, s, F, A, w2, w3, w4, hE, hs, hI, hj, hm, hq => by
    have hrr := hP.1
    have hjr : j < P 0 1 := by omega
    have hs' := hs
    obtain ⟨e0, e1, e2, f5, f6, f8⟩ := hs'
    obtain ⟨p1, p2, p3, p4, p5, p6, p7⟩ := hP.2.2 j hj hjr
    have hb := hE.1
    have hb2 : 0 ≤ b ∧ b ≤ 4 := ⟨hE.2.1, hE.2.2.1⟩
    have hjn : A 378 b = P 0 1 := by rw [← hE.2.2.2.1, RPm_01]
    have hp := hE.p (r := j)
    have main : ∀ x y w4, (x = P 9 j ∧ y = P 10 j ∨ x = P 10 j ∧ y = P 9 j) → s 0 y ≤ s 0 x → 0 ≤ x ∧ x < 8 ∧ 0 ≤ y ∧ y < 8 ∧ (-2147483648 ≤ A 398 x - A 398 y ∧ A 398 x - A 398 y ≤ 2147483647) ∧ 0 ≤ A 398 x - A 398 y ∧ Wp X (k + 1) m_X11_lesser [vI ((A 398 x - A 398 y) / 2), vI (A 388 (4 * b + j))] F A R (fun v F A R => G X (k + 1) m_X11_joinAll Q 108 [vA 373, vI (4 * b + j), vI x, vI y, w4] [v] F A R) := by
      intro x y w4 hxy hle
      have hx0 : 0 ≤ x ∧ x < P 0 0 ∧ 0 ≤ y ∧ y < P 0 0 ∧ y ≠ x := by omega
      obtain ⟨a1, a2, a3, a4⟩ := hI.1.1 x hx0.1 (by omega)
      obtain ⟨b1, b2, b3, b4⟩ := hI.1.1 y hx0.2.2.1 (by omega)
      have a3 := a3 hx0.2.1
      have b3 := b3 hx0.2.2.2.1
      have hotx := hI.hot hP hx0.1 (show x < 8 by omega)
      have hoty := hI.hot hP hx0.2.2.1 (show y < 8 by omega)
      have hx4 := (hP.2.1 x hx0.1 hx0.2.1).2.1
      have hy4 := (hP.2.1 y hx0.2.2.1 hx0.2.2.2.1).2.1
      have heq := joinS_eq (P := P) (s := s) (j := j) hxy hle p6 a3 b3
      have hI' := hI.join hP hj hjr
      have hpy := (hE.p (r := y)).1
      rw [e0, hp.2.2.2.2.2.2.2]
      refine ⟨by omega, by omega, by omega, by omega, by omega, by omega, x_lesser (k := k) (b_X11_joinAll_108 hR ?_)⟩
      rw [hb, hpy, e0]
      refine ⟨by omega, by omega, by omega, by omega, by omega, by omega, by omega, x_lesser (k := k) (b_X11_joinAll_132 hR ⟨by omega, by omega, ?_⟩)⟩
      rw [show min (min ((s 0 x - s 0 y) / 2) (P 11 j)) (P 4 y - s 0 y) = min (min (P 11 j) (P 4 y - s 0 y)) ((s 0 x - s 0 y) / 2) by omega, e1]
      have hn : 0 ≤ min (min (P 11 j) (P 4 y - s 0 y)) ((s 0 x - s 0 y) / 2) ∧ min (min (P 11 j) (P 4 y - s 0 y)) ((s 0 x - s 0 y) / 2) ≤ s 0 x ∧ s 0 y + min (min (P 11 j) (P 4 y - s 0 y)) ((s 0 x - s 0 y) / 2) ≤ P 4 y ∧ min (min (P 11 j) (P 4 y - s 0 y)) ((s 0 x - s 0 y) / 2) ≤ 50 := by omega
      generalize min (min (P 11 j) (P 4 y - s 0 y)) ((s 0 x - s 0 y) / 2) = g2 at *
      have hd := dvr a2 hn.1 hn.2.1
      refine x_take (k := k) hR hs hx0.1 (by omega) hn.1 hn.2.1 hn.2.2.2 (by omega) a2 (by omega) fun A' hs' hX hsc _ => ?_
      obtain ⟨t0, t1, t2, t5, t6, t8⟩ := hs'
      refine b_X11_joinAll_148 hR (by decide +kernel) (show Y1.2.1 399 = 8 by decide +kernel) ⟨by omega, by omega, by omega, fun A1 hA1 => ⟨by omega, by omega, ?_⟩⟩
      have r1 : A1 398 = (tkS x g2 s) 0 := by rw [hA1]; simp only [ne_eq, Int.add_right_inj, Int.reduceEq, not_false_eq_true, st2_n, st2_s, u1_s, u1_u1, t0]
      have r2 : (tkS x g2 s) 0 y = s 0 y := (tkS_o hx0.2.2.2.2).1
      have r3 : (tkS x g2 s) 1 y = s 1 y := (tkS_o hx0.2.2.2.2).2
      rw [r1, r2]
      refine ⟨by omega, fun A2 hA2 => ⟨by omega, ?_⟩⟩
      have x5 : XX F A F A2 := by rw [hA2, hA1]; exact (hX.a (by omega) (by omega) (by omega) (by omega)).a (by omega) (by omega) (by omega) (by omega)
      rw [show 4 * b + j + 1 = 4 * b + (j + 1) by omega]
      refine x_joinL hR hP hK m (j + 1) (joinS P j s) F A2 _ _ _ (hE.xx x5) ?_ hI' (by omega) (by omega) fun F' A'' y1 y2 => hq F' A'' y1 (x5.trans y2)
      rw [← heq]
      refine ⟨?_, ?_, ?_, ?_, ?_, ?_⟩
      · rw [hA2]; unfold gvS; simp only [ne_eq, Int.add_right_inj, Int.reduceEq, not_false_eq_true, st2_n, st2_s, u1_s, u1_u1, r1, r2]
      · rw [hA2, hA1]; unfold gvS; simp only [ne_eq, Int.add_right_inj, Int.reduceEq, not_false_eq_true, st2_n, st2_s, u1_s, u1_u1, t1, r3]
      · rw [hA2, hA1]; unfold gvS; simp only [ne_eq, Int.add_right_inj, Int.reduceEq, not_false_eq_true, st2_n, st2_s, u1_s, u1_u1]; exact t2
      · unfold gvS; simp only [ne_eq, Int.add_right_inj, Int.reduceEq, not_false_eq_true, st2_n, st2_s, u1_s, u1_u1]; exact t5
      · unfold gvS; simp only [ne_eq, Int.add_right_inj, Int.reduceEq, not_false_eq_true, st2_n, st2_s, u1_s, u1_u1]; exact t6
      · unfold gvS; simp only [ne_eq, Int.add_right_inj, Int.reduceEq, not_false_eq_true, st2_n, st2_s, u1_s, u1_u1]; exact t8
    refine b_X11_joinAll_7 hR ?_
    rw [hb, hjn, hp.2.2.2.2.2.1, hp.2.2.2.2.2.2.1]
    refine ⟨by omega, by omega, by omega, by omega, fun hx => by omega, fun _ => ⟨by omega, by omega, by omega, by omega, by omega, by omega, fun hz g1 hg1 => ⟨by omega, by omega, fun g2 hg2 => ?_⟩, fun hz g1 hg1 => ⟨by omega, by omega, fun g2 hg2 => ?_⟩⟩⟩
    · rw [e0] at hz
      exact main g1 g2 _ (Or.inr ⟨hg1, by omega⟩) (by rw [hg1, show g2 = P 9 j by omega]; omega)
    · rw [e0] at hz
      exact main g1 g2 _ (Or.inl ⟨hg1, by omega⟩) (by rw [hg1, show g2 = P 10 j by omega]; omega)
/-- nothing is thrown: nothing changes -/
theorem x_throw0 {X : Int × (Int → Int)} {k : Nat} {Q : Vv → Fn2 → Fn2 → Fn2 → Prop} {R : Fn2} {b K t c a g r : Int} {P s : Fn2} {C : Nat → Option (List Int)} (hR : RS R) (hP : WFP P) (hI : Iv P K t c a g s) {F A : Fn2} (hE : XE b P C F A) (hs : XS s F A) (hK : K ≤ 41000000) (ht : t ≤ 1000000000) (hq : Q vN F A R) : ∀ (f : Nat) (u : Int) (w4 w5 w6 w7 : Vv), u < f → u < P 0 0 → G X (k + 1) m_X11_throwUp Q 15 [vA 373, vI r, vI 0, vI u, w4, w5, w6, w7] [] F A R
  | 0, u, w4, w5, w6, w7, hf, hu => b_X11_throwUp_15 hR ⟨fun _ => hq, fun hx => absurd hf hx⟩
  | f + 1, u, w4, w5, w6, w7, hf, hu => by
    refine b_X11_throwUp_15 hR ⟨fun _ => hq, fun hx => ?_⟩
    have hrr := hP.1
    have hs' := hs
    obtain ⟨e0, e1, e2, f5, f6, f8⟩ := hs'
    have hb := hE.1
    have hb2 : 0 ≤ b ∧ b ≤ 4 := ⟨hE.2.1, hE.2.2.1⟩
    obtain ⟨a1, a2, a3, a4⟩ := hI.1.1 u (by omega) (by omega)
    obtain ⟨p1, p2, p3, p4, p5, p6, p7, p8, -⟩ := hP.2.1 u (by omega) hu
    have a3 := a3 hu
    have hot := hI.hot hP (show 0 ≤ u by omega) (show u < 8 by omega)
    have hw := hI.1.2 u (by omega) hu
    have hk := hI.2.2
    unfold Bk at hk
    have hp := hE.p (r := u)
    have hp2 := hE.p (r := P 8 u)
    refine ⟨by omega, by omega, x_lesser (k := k) ?_⟩
    rw [e2, show min 0 (s 2 u) = 0 by omega]
    refine b_X11_throwUp_29 hR ⟨by omega, by omega, x_lesser (k := k) ?_⟩
    rw [e0, show min 0 (s 0 u) = 0 by omega]
    refine b_X11_throwUp_38 (x_take (k := k) hR hs (by omega) (by omega) (by omega) (by omega) (by omega) (by omega) a2 (by omega) fun A' hs' hX hsc h396 => ?_)
    have eA : A' = A := by
      funext z
      by_cases h1 : z = 398
      · subst h1; rw [hs'.1, e0, tk_0]
      · by_cases h2 : z = 399
        · subst h2; rw [hs'.2.1, e1, tk_0]
        · by_cases h3 : 401 ≤ z ∧ z ≤ 404
          · exact hsc z h3.1 h3.2
          · by_cases h4 : z = 396
            · subst h4; exact h396
            · exact hX.1 z (by omega)
    rw [eA]
    have z0 : s 1 u * 0 / s 0 u = 0 := by simp
    refine b_X11_throwUp_47 hR ?_
    rw [hb, hp.2.2.2.1]
    refine ⟨by omega, by omega, by omega, by omega, fun g1 hg1 => ?_⟩
    subst hg1
    have nx : ∀ w7, G X (k + 1) m_X11_throwUp Q 102 [vA 373, vI r, vI 0, vI u, vI 0, vI (s 1 u * 0 / s 0 u), vI (P 8 u), w7] [vI 0] F A R := by
      intro w7
      refine b_X11_throwUp_102 hR ⟨fun _ => ⟨by omega, by omega, fun F1 hF1 => ?_⟩, fun h => by omega⟩
      have eF : F1 = F := by rw [hF1]; exact st2_id (by omega)
      rw [eF, hb, hp.2.2.2.1]
      refine ⟨by omega, by omega, by omega, by omega, fun g2 hg2 => ?_⟩
      subst hg2
      exact x_throw0 hR hP hI hE hs hK ht hq f _ _ _ _ _ (by omega) (by omega)
    refine ⟨fun hz => ?_, fun hz => nx _⟩
    rw [hp2.1, e0]
    obtain ⟨c1, c2, c3, c4⟩ := hI.1.1 (P 8 u) (by omega) (by omega)
    have c3 := c3 (by omega)
    have := (hP.2.1 (P 8 u) (by omega) (by omega)).2.1
    refine ⟨by omega, by omega, by omega, by omega, by omega, by omega, x_lesser (k := k) ?_⟩
    rw [show min 0 (P 4 (P 8 u) - s 0 (P 8 u)) = 0 by omega]
    exact nx _
theorem x_throwL {X : Int × (Int → Int)} {k : Nat} {Q : Vv → Fn2 → Fn2 → Fn2 → Prop} {R : Fn2} {b K c g r many : Int} {P : Fn2} {C : Nat → Option (List Int)} (hR : RS R) (hP : WFP P) (hK : K ≤ 41000000) (hm : 0 < many) : ∀ (f : Nat) (u t a : Int) (s F A : Fn2) (w4 w5 w6 w7 : Vv), XE b P C F A → XS s F A → Iv P K t c a g s → t + 30 * f ≤ 1000000000 → u < f → u < P 0 0 → (∀ F' A', XS (thrS P many f u s) F' A' → XX F A F' A' → XC A A' → Q vN F' A' R) → G X (k + 1) m_X11_throwUp Q 15 [vA 373, vI r, vI many, vI u, w4, w5, w6, w7] [] F A R
  | 0, u, t, a, s, F, A, w4, w5, w6, w7, hE, hs, hI, ht, hf, hu, hq => by
    refine b_X11_throwUp_15 hR ⟨fun _ => hq F A hs XX.refl XC.refl, fun hx => by omega⟩
  | f + 1, u, t, a, s, F, A, w4, w5, w6, w7, hE, hs, hI, ht, hf, hu, hq => by
    have hrr := hP.1
    have hs' := hs
    obtain ⟨e0, e1, e2, f5, f6, f8⟩ := hs'
    have hb := hE.1
    have hb2 : 0 ≤ b ∧ b ≤ 4 := ⟨hE.2.1, hE.2.2.1⟩
    refine b_X11_throwUp_15 hR ⟨fun hx => ?_, fun hu0 => ?_⟩
    · refine hq F A ?_ XX.refl XC.refl
      unfold thrS; rw [if_pos (Or.inl hx)]; exact hs
    have hc : ¬ (u < 0 ∨ many ≤ 0) := by omega
    have hthr : Iv P K (t + 30) c (a + 30) g (thrS P many 1 u s) := by simpa using Iv.thr (many := many) hP 1 u t a s hI hu
    obtain ⟨q1, q2, q3⟩ := thr_u hI hP (by omega) hu hm
    obtain ⟨a1, a2, a3, a4⟩ := hI.1.1 u (by omega) (by omega)
    obtain ⟨p1, p2, p3, p4, p5, p6, p7, p8, -⟩ := hP.2.1 u (by omega) hu
    have a3 := a3 hu
    have hot := hI.hot hP (show 0 ≤ u by omega) (show u < 8 by omega)
    have hb2' := hI.1.2 u (by omega) hu
    have hk := hI.2.2
    unfold Bk at hk
    have hp := hE.p (r := u)
    refine ⟨by omega, by omega, x_lesser (k := k) ?_⟩
    rw [e2]
    refine b_X11_throwUp_29 hR ⟨by omega, by omega, x_lesser (k := k) ?_⟩
    rw [e0, show min (min many (s 2 u)) (s 0 u) = min (min many (s 0 u)) (s 2 u) by omega]
    have hg4' : min (min many (s 0 u)) (s 2 u) = min (min many (s 0 u)) (s 2 u) := rfl
    generalize hgg : min (min many (s 0 u)) (s 2 u) = g4 at *
    have hn : 0 ≤ g4 ∧ g4 ≤ 30 ∧ g4 ≤ s 0 u := ⟨q1, q2, q3⟩
    have hI1 : Iv P K t c a g (st2 s 3 u (max (s 3 u) (min many (s 0 u)))) := hI.o3 (by omega) (by omega)
    have z0 : (st2 s 3 u (max (s 3 u) (min many (s 0 u)))) 0 = s 0 := by rw [st2_n (by decide)]
    have z1 : (st2 s 3 u (max (s 3 u) (min many (s 0 u)))) 1 = s 1 := by rw [st2_n (by decide)]
    have hI2 := hI1.tk hP (show 0 ≤ u by omega) hu hn.1 (by rw [z0]; exact hn.2.2)
    have hsA3 : XS (st2 s 3 u (max (s 3 u) (min many (s 0 u)))) F A := by
      refine ⟨?_, ?_, ?_, ?_, ?_, ?_⟩ <;> simp only [ne_eq, Int.add_right_inj, Int.reduceEq, not_false_eq_true, st2_n, st2_s, u1_s, u1_u1] <;> assumption
    refine b_X11_throwUp_38 (x_take (k := k) hR hsA3 (by omega) (by omega) hn.1 (by rw [z0]; exact hn.2.2) (by omega) (by rw [z0]; omega) (by rw [z1]; omega) (by rw [z1]; omega) fun A' hs' hX hsc _ => ?_)
    rw [z0, z1]
    rw [z0, z1] at hI2
    obtain ⟨hI2, hd1, hd2⟩ := hI2
    have hE' := hE.xx hX
    have hth : ∀ n, thrS P many (n + 1) u s = thrS P many n (P 8 u) (if 0 < (if P 8 u < 0 then 0 else min g4 (P 4 (P 8 u) - (tkS u g4 (st2 s 3 u (max (s 3 u) (min many (s 0 u))))) 0 (P 8 u))) then gvS (P 8 u) (if P 8 u < 0 then 0 else min g4 (P 4 (P 8 u) - (tkS u g4 (st2 s 3 u (max (s 3 u) (min many (s 0 u))))) 0 (P 8 u))) (s 1 u * g4 / s 0 u * (if P 8 u < 0 then 0 else min g4 (P 4 (P 8 u) - (tkS u g4 (st2 s 3 u (max (s 3 u) (min many (s 0 u))))) 0 (P 8 u))) / g4) (st2 (st2 (tkS u g4 (st2 s 3 u (max (s 3 u) (min many (s 0 u))))) 9 15 ((tkS u g4 (st2 s 3 u (max (s 3 u) (min many (s 0 u))))) 9 15 + (g4 - (if P 8 u < 0 then 0 else min g4 (P 4 (P 8 u) - (tkS u g4 (st2 s 3 u (max (s 3 u) (min many (s 0 u))))) 0 (P 8 u)))))) 9 17 ((tkS u g4 (st2 s 3 u (max (s 3 u) (min many (s 0 u))))) 9 17 + (g4 - (if P 8 u < 0 then 0 else min g4 (P 4 (P 8 u) - (tkS u g4 (st2 s 3 u (max (s 3 u) (min many (s 0 u))))) 0 (P 8 u)))))) else (st2 (st2 (tkS u g4 (st2 s 3 u (max (s 3 u) (min many (s 0 u))))) 9 15 ((tkS u g4 (st2 s 3 u (max (s 3 u) (min many (s 0 u))))) 9 15 + (g4 - (if P 8 u < 0 then 0 else min g4 (P 4 (P 8 u) - (tkS u g4 (st2 s 3 u (max (s 3 u) (min many (s 0 u))))) 0 (P 8 u)))))) 9 17 ((tkS u g4 (st2 s 3 u (max (s 3 u) (min many (s 0 u))))) 9 17 + (g4 - (if P 8 u < 0 then 0 else min g4 (P 4 (P 8 u) - (tkS u g4 (st2 s 3 u (max (s 3 u) (min many (s 0 u))))) 0 (P 8 u))))))) := by
      intro n
      conv => lhs; unfold thrS
      rw [if_neg hc, hgg]
    rw [hth] at hq
    have hth1 := hth 0
    rw [show (0 : Nat) + 1 = 1 from rfl] at hth1
    rw [hth1, show ∀ x, thrS P many 0 (P 8 u) x = x from fun _ => rfl] at hthr
    clear hth hth1
    obtain ⟨t0, t1, t2, t5, t6, t8⟩ := hs'
    have hk2 := hI2.2.2
    unfold Bk at hk2
    have hup : P 8 u < P 0 0 := by omega
    generalize s 1 u * g4 / s 0 u = sh at *
    generalize tkS u g4 (st2 s 3 u (max (s 3 u) (min many (s 0 u)))) = tt at *
    have hb' := hE'.1
    have hp' := hE'.p (r := u)
    have hp2 := hE'.p (r := P 8 u)
    -- what is taken
    have nx : ∀ kk w7, 0 ≤ kk → kk ≤ g4 → (0 < kk → ¬ P 8 u < 0 ∧ tt 0 (P 8 u) + kk ≤ P 4 (P 8 u)) → kk = (if P 8 u < 0 then 0 else min g4 (P 4 (P 8 u) - tt 0 (P 8 u))) → G X (k + 1) m_X11_throwUp Q 102 [vA 373, vI r, vI many, vI u, vI g4, vI sh, vI (P 8 u), w7] [vI kk] F A' R := by
      intro kk w7 k0 k1 k2 hkk
      rw [← hkk] at hq hthr
      refine b_X11_throwUp_102 hR ?_
      rw [t5]
      refine ⟨fun hk0 => ⟨by omega, by omega, fun F1 hF1 => ?_⟩, fun hk0 => ?_⟩
      · rw [if_neg hk0] at hq hthr
        have x5 : XX F A F1 A' := by rw [hF1]; exact hX.f (by omega) (by omega) (by omega)
        have hE5 := hE.xx x5
        rw [hE5.1, hp'.2.2.2.1]
        refine ⟨by omega, by omega, by omega, by omega, fun g2 hg2 => ?_⟩
        subst hg2
        refine x_throwL hR hP hK hm f (P 8 u) (t + 30) (a + 30) _ F1 A' _ _ _ _ hE5 ?_ hthr (by omega) (by omega) hup (fun F' A'' y1 y2 y3 => hq F' A'' y1 (x5.trans y2) (hsc.trans y3))
        refine ⟨?_, ?_, ?_, ?_, ?_, ?_⟩
        · simp only [ne_eq, Int.add_right_inj, Int.reduceEq, not_false_eq_true, st2_n, st2_s, u1_s, u1_u1]; exact t0
        · simp only [ne_eq, Int.add_right_inj, Int.reduceEq, not_false_eq_true, st2_n, st2_s, u1_s, u1_u1]; exact t1
        · simp only [ne_eq, Int.add_right_inj, Int.reduceEq, not_false_eq_true, st2_n, st2_s, u1_s, u1_u1]; exact t2
        · rw [hF1]; simp only [ne_eq, Int.add_right_inj, Int.reduceEq, not_false_eq_true, st2_n, st2_s, u1_s, u1_u1, u1_n]
        · rw [hF1]; simp only [ne_eq, Int.add_right_inj, Int.reduceEq, not_false_eq_true, st2_n, st2_s, u1_s, u1_u1, u1_n]; exact t6
        · rw [hF1]; simp only [ne_eq, Int.add_right_inj, Int.reduceEq, not_false_eq_true, st2_n, st2_s, u1_s, u1_u1, u1_n]; exact t8
      · rw [if_pos hk0] at hq hthr
        obtain ⟨hz, k3⟩ := k2 hk0
        have hmm := mul_b hd1 (show sh ≤ 42000000 by omega) k0 (show kk ≤ 30 by omega)
        have hdv := dvr hd1 k0 k1
        obtain ⟨b1, b2, b3, b4⟩ := hI2.1.1 (P 8 u) (by omega) (by omega)
        have b3 := b3 hup
        have hp4 := (hP.2.1 (P 8 u) (by omega) hup).2.1
        have hoty := hI2.hot hP (show 0 ≤ P 8 u by omega) (show P 8 u < 8 by omega)
        have hpp : 0 ≤ pp g4 sh := pp_0
        rw [t0]
        refine ⟨by omega, by omega, by omega, fun A3 hA3 => ?_⟩
        have r4 : A3 399 = tt 1 := by rw [hA3]; simp only [ne_eq, Int.add_right_inj, Int.reduceEq, not_false_eq_true, st2_n, st2_s, u1_s, u1_u1, t1]
        rw [r4]
        refine ⟨by omega, by omega, by omega, by omega, fun A4 hA4 => ⟨by omega, by omega, fun F5 hF5 => ?_⟩⟩
        have x5 : XX F A F5 A4 := by rw [hF5, hA4, hA3]; exact ((hX.f (by omega) (by omega) (by omega)).a (by omega) (by omega) (by omega) (by omega)).a (by omega) (by omega) (by omega) (by omega)
        have s5 : XC A A4 := by rw [hA4, hA3]; exact (hsc.a (by omega)).a (by omega)
        have hE5 := hE.xx x5
        have hp5 := hE5.p (r := u)
        rw [hE5.1, hp5.2.2.2.1]
        refine ⟨by omega, by omega, by omega, by omega, fun g2 hg2 => ?_⟩
        subst hg2
        refine x_throwL hR hP hK hm f (P 8 u) (t + 30) (a + 30) _ F5 A4 _ _ _ _ hE5 ?_ hthr (by omega) (by omega) hup (fun F' A'' y1 y2 y3 => hq F' A'' y1 (x5.trans y2) (s5.trans y3))
        refine ⟨?_, ?_, ?_, ?_, ?_, ?_⟩
        · rw [hA4, hA3]; unfold gvS; simp only [ne_eq, Int.add_right_inj, Int.reduceEq, not_false_eq_true, st2_n, st2_s, u1_s, u1_u1, t0]
        · rw [hA4]; unfold gvS; simp only [ne_eq, Int.add_right_inj, Int.reduceEq, not_false_eq_true, st2_n, st2_s, u1_s, u1_u1, r4]
        · rw [hA4, hA3]; unfold gvS; simp only [ne_eq, Int.add_right_inj, Int.reduceEq, not_false_eq_true, st2_n, st2_s, u1_s, u1_u1]; exact t2
        · rw [hF5]; unfold gvS; simp only [ne_eq, Int.add_right_inj, Int.reduceEq, not_false_eq_true, st2_n, st2_s, u1_s, u1_u1, u1_n]
        · rw [hF5]; unfold gvS; simp only [ne_eq, Int.add_right_inj, Int.reduceEq, not_false_eq_true, st2_n, st2_s, u1_s, u1_u1, u1_n]; exact t6
        · rw [hF5]; unfold gvS; simp only [ne_eq, Int.add_right_inj, Int.reduceEq, not_false_eq_true, st2_n, st2_s, u1_s, u1_u1, u1_n]; exact t8
    refine b_X11_throwUp_47 hR ?_
    rw [hb', hp'.2.2.2.1]
    refine ⟨by omega, by omega, by omega, by omega, fun g1 hg1 => ?_⟩
    have hg1' := hg1.symm
    subst hg1'
    refine ⟨fun hz => ?_, fun hz => nx 0 _ (by omega) hn.1 (fun h => by omega) (by rw [if_pos hz])⟩
    rw [hp2.1, t0]
    obtain ⟨b1, b2, b3, b4⟩ := hI2.1.1 (P 8 u) (by omega) (by omega)
    have b3 := b3 hup
    have hp4 := (hP.2.1 (P 8 u) (by omega) hup).2.1
    refine ⟨by omega, by omega, by omega, by omega, by omega, by omega, x_lesser (k := k) ?_⟩
    exact nx _ _ (by omega) (by omega) (fun _ => ⟨hz, by omega⟩) (by rw [if_neg hz])
