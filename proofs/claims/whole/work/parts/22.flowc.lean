/-! THE CLASS'S SECOND: Flow o over Spring q and Laws l -/
theorem ext2 {f g : Int → Int} (h : ∀ r, f r = g r) : f = g := funext h
/-- the spring q holds P -/
def SpR (q : Int) (P F A : Fn2) : Prop := (∀ i, 1 ≤ i → i ≤ 11 → A (q + i) = P i) ∧ F q 0 = P 0 0 ∧ F q 1 = P 0 1
def FE (o q l : Int) (P : Fn2) (C : Nat → Option (List Int)) (F A R : Fn2) : Prop := R o 0 = q ∧ At_Spring q ∧ R o 1 = l ∧ At_Laws l ∧ SpR q P F A ∧ CLw l A C
def FS (o : Int) (s F A : Fn2) : Prop := A (o + 18) = s 0 ∧ A (o + 19) = s 1 ∧ A (o + 20) = s 2 ∧ A (o + 21) = s 3 ∧ F o 15 = s 9 15 ∧ F o 16 = s 9 16 ∧ F o 17 = s 9 17 ∧ F o 18 = s 9 18
/-- only what a second may change has changed -/
def FX (o l : Int) (F A F' A' : Fn2) : Prop := (∀ a, ¬ (o + 18 ≤ a ∧ a ≤ o + 26) → a ≠ l + 4 → A' a = A a) ∧ ∀ x f, x ≠ o ∨ f < 15 ∨ 18 < f → F' x f = F x f
theorem FX.refl {o l : Int} {F A : Fn2} : FX o l F A F A := ⟨fun _ _ _ => rfl, fun _ _ _ => rfl⟩
theorem FX.trans {o l : Int} {F A F1 A1 F2 A2 : Fn2} (h : FX o l F A F1 A1) (g : FX o l F1 A1 F2 A2) : FX o l F A F2 A2 :=
  ⟨fun a h1 h2 => (g.1 a h1 h2).trans (h.1 a h1 h2), fun x f h1 => (g.2 x f h1).trans (h.2 x f h1)⟩
theorem FX.a {o l c i v : Int} {F A F1 A1 : Fn2} (h : FX o l F A F1 A1) (h1 : 18 ≤ c) (h2 : c ≤ 26) : FX o l F A F1 (st2 A1 (o + c) i v) :=
  ⟨fun a h3 h4 => by rw [st2_n (by omega)]; exact h.1 a h3 h4, h.2⟩
theorem FX.f {o l i v : Int} {F A F1 A1 : Fn2} (h : FX o l F A F1 A1) (h1 : 15 ≤ i) (h2 : i ≤ 18) : FX o l F A (st2 F1 o i v) A1 :=
  ⟨h.1, fun x f h3 => by
    by_cases e : x = o
    · subst e; rw [st2_s, u1_n (by omega)]; exact h.2 x f h3
    · rw [st2_n e]; exact h.2 x f h3⟩
theorem FX.s {o l : Int} {F A F1 A1 : Fn2} {S : Int → Int} (h : FX o l F A F1 A1) : FX o l F A F1 (up2 A1 (l + 4) S) :=
  ⟨fun a h3 h4 => by rw [up2_n h4]; exact h.1 a h3 h4, h.2⟩
set_option maxHeartbeats 4000000 in
theorem dj_SF {q o : Int} (hq : At_Spring q) (ho : At_Flow o) : q ≠ o ∧ (q + 11 < o + 18 ∨ o + 26 < q) := by
  unfold At_Spring at hq; unfold At_Flow at ho
  rcases ho with h | h | h | h | h <;> subst h <;> omega
theorem dj_LF {l o : Int} (hl : At_Laws l) (ho : At_Flow o) : l ≠ o ∧ (l + 4 < o + 18 ∨ o + 26 < l) := by
  unfold At_Laws at hl; unfold At_Flow at ho
  rcases ho with h | h | h | h | h <;> subst h <;> omega
theorem dj_SL {q l : Int} (hq : At_Spring q) (hl : At_Laws l) : l + 4 < q ∨ q + 11 < l := by
  unfold At_Laws at hl; unfold At_Spring at hq
  rcases hl with h | h | h | h | h | h | h <;> subst h <;> omega
theorem CL1.of {l i : Int} {A A' : Fn2} (h1 : A' (l + 1) = A (l + 1)) (h2 : A' (l + 2) = A (l + 2)) (h3 : A' (l + 3) = A (l + 3)) : ∀ {c : Option (List Int)}, CL1 l A i c → CL1 l A' i c
  | none, h => by unfold CL1 at h ⊢; rw [h3]; exact h
  | some cs, h => by unfold CL1 at h ⊢; rw [h1, h2, h3]; exact h
theorem CLw.of {l : Int} {A A' : Fn2} {C : Nat → Option (List Int)} (h : CLw l A C) (h1 : A' (l + 1) = A (l + 1)) (h2 : A' (l + 2) = A (l + 2)) (h3 : A' (l + 3) = A (l + 3)) : CLw l A' C :=
  ⟨h.1.of h1 h2 h3, h.2.1.of h1 h2 h3, h.2.2.of h1 h2 h3⟩
theorem FE.fx {o q l : Int} {P F A F' A' R : Fn2} {C : Nat → Option (List Int)} (ho : At_Flow o) (h : FE o q l P C F A R) (x : FX o l F A F' A') : FE o q l P C F' A' R := by
  obtain ⟨a1, a2, a3, a4, ⟨a5, a6, a7⟩, a8⟩ := h
  have d1 := dj_SF a2 ho
  have d2 := dj_LF a4 ho
  have d3 := dj_SL a2 a4
  refine ⟨a1, a2, a3, a4, ⟨fun i h1 h2 => ?_, ?_, ?_⟩, a8.of ?_ ?_ ?_⟩
  · rw [x.1 _ (by omega) (by omega)]; exact a5 i h1 h2
  · rw [x.2 _ _ (Or.inl d1.1)]; exact a6
  · rw [x.2 _ _ (Or.inl d1.1)]; exact a7
  · exact x.1 _ (by omega) (by omega)
  · exact x.1 _ (by omega) (by omega)
  · exact x.1 _ (by omega) (by omega)
theorem dvr {h n w : Int} (hh : 0 ≤ h) (hn : 0 ≤ n) (hw : n ≤ w) : 0 ≤ h * n / w ∧ h * n / w ≤ h := by
  refine ⟨Int.ediv_nonneg (Int.mul_nonneg hh hn) (by omega), ?_⟩
  by_cases hz : w = 0
  · rw [hz]; simp; exact hh
  · exact Int.ediv_le_of_le_mul (by omega) (Int.mul_le_mul_of_nonneg_left hw hh)
theorem mul_b {x y a b : Int} (h0 : 0 ≤ x) (h1 : x ≤ a) (g0 : 0 ≤ y) (g1 : y ≤ b) : 0 ≤ x * y ∧ x * y ≤ a * b :=
  ⟨Int.mul_nonneg h0 g0, Int.mul_le_mul h1 g1 g0 (by omega)⟩
/-- the rows that a second works with -/
def SC (o : Int) (A A' : Fn2) : Prop := ∀ c, 22 ≤ c → c ≤ 26 → A' (o + c) = A (o + c)
theorem SC.refl {o : Int} {A : Fn2} : SC o A A := fun _ _ _ => rfl
theorem SC.trans {o : Int} {A A1 A2 : Fn2} (h : SC o A A1) (g : SC o A1 A2) : SC o A A2 := fun c a b => (g c a b).trans (h c a b)
theorem SC.a {o c i v : Int} {A A1 : Fn2} (h : SC o A A1) (h1 : 18 ≤ c) (h2 : c ≤ 21) : SC o A (st2 A1 (o + c) i v) := fun d a b => by
  rw [st2_n (by omega)]; exact h d a b
/-- grains leave: the answer is their share -/
theorem c_lose {X : Int × (Int → Int)} {k : Nat} {Q : Vv → Fn2 → Fn2 → Fn2 → Prop} {F A R : Fn2} {o l r n : Int} {s : Fn2} (hR : RS R) (ho : At_Flow o) (hs : FS o s F A) (h0 : 0 ≤ r) (h8 : r < 8) (hn : 0 ≤ n) (hn2 : n ≤ s 0 r) (hw : s 0 r ≤ 99) (hh : 0 ≤ s 1 r) (hh2 : s 1 r ≤ 42000000) (hq : ∀ A', FS o (tkS r n s) F A' → FX o l F A F A' → SC o A A' → Q (vI (s 1 r * n / s 0 r)) F A' R) : Wp X (k + 1) m_X2_lose [vA o, vI r, vI n] F A R Q := by
  obtain ⟨e0, e1, e2, e3, e4⟩ := hs
  have hd := dvr hh hn hn2
  have hm := mul_b hh hh2 hn (b := 99) (by omega)
  refine Wp.of [vA o, vI r, vI n, vN] rfl rfl rfl (b_X2_lose_0 hR ho ?_)
  rw [e0, e1]
  have e5 : n = 0 → Q (vI 0) F A R := fun hz => by
    have h1 := hq A (by subst hz; rw [tk_0]; exact ⟨e0, e1, e2, e3, e4⟩) FX.refl SC.refl
    subst hz
    simpa using h1
  refine ⟨fun hz => e5 (by omega), fun hz => ⟨h0, h8, fun hp => ⟨by omega, by omega, by omega, by omega, fun g hg => ?_⟩, fun hp => e5 (by omega)⟩⟩
  subst hg
  refine ⟨by omega, fun g hg => ?_⟩
  subst hg
  rw [show (st2 A (o + 18) r (s 0 r - n)) (o + 19) = s 1 by simp only [ne_eq, Int.add_right_inj, Int.reduceEq, not_false_eq_true, st2_n, st2_s, u1_s, u1_u1, e1]]
  refine ⟨by omega, fun g hg => ?_⟩
  subst hg
  refine hq _ ?_ ((FX.refl.a (by omega) (by omega)).a (by omega) (by omega)) ?_
  · refine ⟨?_, ?_, ?_, ?_, ?_⟩ <;> simp only [tkS, ne_eq, Int.add_right_inj, Int.reduceEq, not_false_eq_true, st2_n, st2_s, u1_s, u1_u1, e0, e1, e2, e3]
    exact e4
  · exact (SC.refl.a (by omega) (by omega)).a (by omega) (by omega)
theorem c_fillL {X : Int × (Int → Int)} {k : Nat} {Q : Vv → Fn2 → Fn2 → Fn2 → Prop} {R : Fn2} {o q l cw t a g : Int} {P : Fn2} {C : Nat → Option (List Int)} {Cl : Int → Int} (hR : RS R) (ho : At_Flow o) (hP : WFP P) (hc0 : 0 ≤ cw) (hc1 : cw ≤ 99) (hCl : ∀ r, 0 ≤ r → r < P 0 0 → 0 ≤ Cl r ∧ Cl r ≤ 999) : ∀ (m : Nat) (j K c : Int) (s F A : Fn2) (w2 : Vv), FE o q l P C F A R → FS o s F A → F o 2 = cw → (∀ r, 0 ≤ r → r < P 0 0 → A (o + 25) r = Cl r) → Iv P K t c a g s → K + 2439 * m ≤ 41000000 → c + 30 * m ≤ 1000000000 → 0 ≤ j → j + m = P 0 0 → (∀ F' A', FS o (lp (fillS P cw Cl) m j s) F' A' → FX o l F A F' A' → Q vN F' A' R) → G X k m_X2_fill Q 2 [vA o, vI j, w2] [] F A R
  | 0, j, K, c, s, F, A, w2, hE, hs, hcw, hC, hI, hK, hc, hj, hm, hq => by
    refine b_X2_fill_2 hR ho hE.1 hE.2.1 ⟨fun _ => hq F A hs FX.refl, fun hx => ?_⟩
    rw [hE.2.2.2.2.1.2.1] at hx; omega
  | m + 1, j, K, c, s, F, A, w2, hE, hs, hcw, hC, hI, hK, hc, hj, hm, hq => by
    have hrr := hP.1
    have hjr : j < P 0 0 := by omega
    obtain ⟨e0, e1, e2, e3, f5, f6, f7, f8⟩ := hs
    obtain ⟨a1, a2, a3, a4⟩ := hI.1.1 j hj (by omega)
    obtain ⟨p1, p2, p3, p4, p5, p6, -⟩ := hP.2.1 j hj hjr
    have a3 := a3 hjr
    have hot := hI.hot hP hj (show j < 8 by omega)
    have d1 := dj_SF hE.2.1 ho
    have hS := hE.2.2.2.2.1
    have hk := hI.2.2
    unfold Bk at hk
    have hCj := hCl j hj hjr
    have hI' := hI.fill (r := j) (Cl := Cl) hP hc0 hc1 hj hjr hCj.1
    refine b_X2_fill_2 hR ho hE.1 hE.2.1 ⟨fun hx => ?_, fun _ => ?_⟩
    · rw [hS.2.1] at hx; omega
    rw [hS.1 4 (by omega) (by omega), hS.1 7 (by omega) (by omega), e0, f6]
    refine ⟨by omega, by omega, by omega, fun g hg => ?_⟩
    have hg0 : 0 ≤ g ∧ g ≤ 30 ∧ s 0 j + g ≤ P 4 j := by omega
    refine ⟨by omega, fun F2 hF2 => ⟨by omega, fun A3 hA3 => ?_⟩⟩
    have hF22 : F2 o 2 = cw := by rw [hF2, st2_s, u1_n (by omega)]; exact hcw
    have hmu := mul_b hg0.1 hg0.2.1 hc0 hc1
    have r1 : A3 (o + 19) = s 1 := by rw [hA3]; simp only [ne_eq, Int.add_right_inj, Int.reduceEq, not_false_eq_true, st2_n, st2_s, u1_s, u1_u1, e1]
    rw [hF22, r1]
    refine ⟨by omega, by omega, fun A4 hA4 => ?_⟩
    have r2 : A4 (o + 18) = u1 (s 0) j (s 0 j + g) := by rw [hA4, hA3]; simp only [ne_eq, Int.add_right_inj, Int.reduceEq, not_false_eq_true, st2_n, st2_s, u1_s, u1_u1, e0]
    have r3 : A4 (o + 19) = u1 (s 1) j (s 1 j + g * cw) := by rw [hA4, st2_s, r1]
    have r4 : A4 (o + 25) j = Cl j := by rw [hA4, hA3, ← hC j hj hjr]; simp only [ne_eq, Int.add_right_inj, Int.reduceEq, not_false_eq_true, st2_n, st2_s, u1_s, u1_u1]
    have r5 : A4 (q + 6) = P 6 := by rw [hA4, hA3, st2_n (by omega), st2_n (by omega)]; exact hS.1 6 (by omega) (by omega)
    have x4 : FX o l F A F2 A4 := by rw [hF2, hA4, hA3]; exact ((FX.refl.f (by omega) (by omega)).a (by omega) (by omega)).a (by omega) (by omega)
    -- the last word on room j
    have fin : ∀ h A5 w, h = s 1 j + g * cw + (if 0 < s 0 j + g then P 6 j else 0) → A5 (o + 18) = u1 (s 0) j (s 0 j + g) → A5 (o + 19) = u1 (s 1) j (max 0 (h - Cl j)) → (∀ a, a ≠ o + 18 → a ≠ o + 19 → A5 a = A a) → G X k m_X2_fill Q 2 [vA o, vI (j + 1), w] [] F2 A5 R := by
      intro h A5 w hh h18 h19 ho5
      have x5 : FX o l F A F2 A5 := ⟨fun a b1 b2 => ho5 a (by omega) (by omega), x4.2⟩
      have es : fillS P cw Cl j s = st2 (st2 (st2 s 0 j (s 0 j + g)) 1 j (max 0 (h - Cl j))) 9 16 (s 9 16 + g) := by
        unfold fillS; rw [← hg, hh]
      refine c_fillL hR ho hP hc0 hc1 hCl m (j + 1) (K + 2439) (c + 30) (fillS P cw Cl j s) F2 A5 w (hE.fx ho x5) ?_ hF22 (fun r z0 z1 => ?_) hI' (by omega) (by omega) (by omega) (by omega) (fun F' A' y1 y2 => hq F' A' y1 (x5.trans y2))
      · rw [es]
        refine ⟨?_, ?_, ?_, ?_, ?_, ?_, ?_, ?_⟩
        · simp only [ne_eq, Int.add_right_inj, Int.reduceEq, not_false_eq_true, st2_n, st2_s, u1_s, u1_u1, h18]
        · simp only [ne_eq, Int.add_right_inj, Int.reduceEq, not_false_eq_true, st2_n, st2_s, u1_s, u1_u1, h19]
        · rw [ho5 _ (by omega) (by omega)]; simp only [ne_eq, Int.add_right_inj, Int.reduceEq, not_false_eq_true, st2_n, st2_s, u1_s, u1_u1, e2]
        · rw [ho5 _ (by omega) (by omega)]; simp only [ne_eq, Int.add_right_inj, Int.reduceEq, not_false_eq_true, st2_n, st2_s, u1_s, u1_u1, e3]
        · rw [hF2]; simp only [ne_eq, Int.add_right_inj, Int.reduceEq, not_false_eq_true, st2_n, st2_s, u1_s, u1_u1]; rw [u1_n (by omega), u1_n (by omega)]; exact f5
        · rw [hF2]; simp only [ne_eq, Int.add_right_inj, Int.reduceEq, not_false_eq_true, st2_n, st2_s, u1_s, u1_u1]
        · rw [hF2]; simp only [ne_eq, Int.add_right_inj, Int.reduceEq, not_false_eq_true, st2_n, st2_s, u1_s, u1_u1]; rw [u1_n (by omega), u1_n (by omega)]; exact f7
        · rw [hF2]; simp only [ne_eq, Int.add_right_inj, Int.reduceEq, not_false_eq_true, st2_n, st2_s, u1_s, u1_u1]; rw [u1_n (by omega), u1_n (by omega)]; exact f8
      · rw [ho5 _ (by omega) (by omega)]; exact hC r z0 z1
    rw [r2, r3, r4, r5, u1_s, u1_s]
    have oth : ∀ a, a ≠ o + 18 → a ≠ o + 19 → A4 a = A a := fun a b1 b2 => by rw [hA4, hA3, st2_n b2, st2_n b1]
    refine ⟨fun hz => ⟨by omega, fun A5 hA5 => ⟨by omega, fin _ _ _ (by rw [if_neg hz]) ?_ ?_ ?_⟩⟩, fun hz => ⟨by omega, fun A6 hA6 => ?_⟩⟩
    · rw [hA5]; simp only [ne_eq, Int.add_right_inj, Int.reduceEq, not_false_eq_true, st2_n, st2_s, u1_s, u1_u1, r2]
    · rw [hA5]; simp only [ne_eq, Int.add_right_inj, Int.reduceEq, not_false_eq_true, st2_n, st2_s, u1_s, u1_u1, r3, Int.add_zero]
    · intro a b1 b2; rw [hA5, st2_n b2]; exact oth a b1 b2
    · have r6 : A6 (o + 19) = u1 (s 1) j (s 1 j + g * cw + P 6 j) := by rw [hA6, st2_s, r3, u1_u1]
      have r7 : A6 (o + 25) j = Cl j := by rw [hA6]; simp only [ne_eq, Int.add_right_inj, Int.reduceEq, not_false_eq_true, st2_n, st2_s, u1_s, u1_u1]; exact r4
      rw [r6, r7, u1_s]
      refine ⟨by omega, fun A7 hA7 => ⟨by omega, fin _ _ _ (by rw [if_pos hz]) ?_ ?_ ?_⟩⟩
      · rw [hA7, hA6]; simp only [ne_eq, Int.add_right_inj, Int.reduceEq, not_false_eq_true, st2_n, st2_s, u1_s, u1_u1, r2]
      · rw [hA7, st2_s, r6, u1_u1]
      · intro a b1 b2; rw [hA7, hA6, st2_n b2, st2_n b2]; exact oth a b1 b2

theorem joinS_eq {P s : Fn2} {j x y : Int} (hxy : x = P 9 j ∧ y = P 10 j ∨ x = P 10 j ∧ y = P 9 j) (hle : s 0 y ≤ s 0 x) (hj : 0 ≤ P 11 j) (hx : s 0 x ≤ P 4 x) (hy : s 0 y ≤ P 4 y) : gvS y (min (min (P 11 j) (P 4 y - s 0 y)) ((s 0 x - s 0 y) / 2)) (s 1 x * (min (min (P 11 j) (P 4 y - s 0 y)) ((s 0 x - s 0 y) / 2)) / s 0 x) (tkS x (min (min (P 11 j) (P 4 y - s 0 y)) ((s 0 x - s 0 y) / 2)) s) = joinS P j s := by
  by_cases he : s 0 x = s 0 y
  · have z1 : min (min (P 11 j) (P 4 y - s 0 y)) ((s 0 x - s 0 y) / 2) = 0 := by omega
    rw [z1, Int.mul_zero, Int.zero_ediv, tk_0, gv_0]
    unfold joinS
    obtain ⟨hab, -⟩ := jn_ab (P := P) (s := s) (j := j)
    have z2 : min (min ((s 0 (jnA P j s) - s 0 (jnB P j s)) / 2) (P 11 j)) (P 4 (jnB P j s) - s 0 (jnB P j s)) = 0 := by
      rcases hab with ⟨h1, h2⟩ | ⟨h1, h2⟩ <;> rcases hxy with ⟨h3, h4⟩ | ⟨h3, h4⟩ <;> rw [h1, h2] <;> subst h3 <;> subst h4 <;> omega
    dsimp only
    rw [z2, Int.mul_zero, Int.zero_ediv, tk_0, gv_0]
  · have hx' : jnA P j s = x ∧ jnB P j s = y := by
      unfold jnA jnB
      rcases hxy with ⟨h3, h4⟩ | ⟨h3, h4⟩ <;> subst h3 <;> subst h4
      · rw [if_pos (by omega), if_pos (by omega)]; exact ⟨rfl, rfl⟩
      · rw [if_neg (by omega), if_neg (by omega)]; exact ⟨rfl, rfl⟩
    unfold joinS
    dsimp only
    rw [hx'.1, hx'.2]
    have z3 : min (min ((s 0 x - s 0 y) / 2) (P 11 j)) (P 4 y - s 0 y) = min (min (P 11 j) (P 4 y - s 0 y)) ((s 0 x - s 0 y) / 2) := by omega
    rw [z3]
theorem c_levelL {X : Int × (Int → Int)} {k : Nat} {Q : Vv → Fn2 → Fn2 → Fn2 → Prop} {R : Fn2} {o q l K t c a g : Int} {P : Fn2} {C : Nat → Option (List Int)} (hR : RS R) (ho : At_Flow o) (hP : WFP P) (hK : K ≤ 41000000) : ∀ (m : Nat) (j : Int) (s F A : Fn2) (w2 w3 w4 w5 : Vv), FE o q l P C F A R → FS o s F A → Iv P K t c a g s → 0 ≤ j → j + m = P 0 1 → (∀ F' A', FS o (lp (joinS P) m j s) F' A' → FX o l F A F' A' → Q vN F' A' R) → G X (k + 1) m_X2_level Q 2 [vA o, vI j, w2, w3, w4, w5] [] F A R
  | 0, j, s, F, A, w2, w3, w4, w5, hE, hs, hI, hj, hm, hq => by
    refine b_X2_level_2 hR ho hE.1 hE.2.1 ⟨fun _ => hq F A hs FX.refl, fun hx => ?_⟩
    rw [hE.2.2.2.2.1.2.2] at hx; omega
  | m + 1, j, s, F, A, w2, w3, w4, w5, hE, hs, hI, hj, hm, hq => by
    have hrr := hP.1
    have hjr : j < P 0 1 := by omega
    obtain ⟨e0, e1, e2, e3, f5, f6, f7, f8⟩ := hs
    obtain ⟨p1, p2, p3, p4, p5, p6, p7⟩ := hP.2.2 j hj hjr
    have d1 := dj_SF hE.2.1 ho
    have hS := hE.2.2.2.2.1
    have main : ∀ x y w4 w5, (x = P 9 j ∧ y = P 10 j ∨ x = P 10 j ∧ y = P 9 j) → s 0 y ≤ s 0 x → G X (k + 1) m_X2_level Q 60 [vA o, vI j, vI x, vI y, w4, w5] [] F A R := by
      intro x y w4 w5 hxy hle
      have hx0 : 0 ≤ x ∧ x < P 0 0 ∧ 0 ≤ y ∧ y < P 0 0 ∧ y ≠ x := by omega
      obtain ⟨a1, a2, a3, a4⟩ := hI.1.1 x hx0.1 (by omega)
      obtain ⟨b1, b2, b3, b4⟩ := hI.1.1 y hx0.2.2.1 (by omega)
      have a3 := a3 hx0.2.1
      have b3 := b3 hx0.2.2.2.1
      have hotx := hI.hot hP hx0.1 (show x < 8 by omega)
      have hoty := hI.hot hP hx0.2.2.1 (show y < 8 by omega)
      have hx4 := (hP.2.1 x hx0.1 hx0.2.1).2.1
      have hy4 := (hP.2.1 y hx0.2.2.1 hx0.2.2.2.1).2.1
      have heq := joinS_eq (P := P) (s := s) (j := j) hxy hle p6 a3 b3
      have hI' := hI.join hP hj hjr
      refine b_X2_level_60 hR ho hE.1 hE.2.1 ?_
      rw [hS.1 4 (by omega) (by omega), hS.1 11 (by omega) (by omega), e0, e1]
      refine ⟨by omega, by omega, by omega, by omega, by omega, fun g1 hg1 => ⟨by omega, by omega, by omega, by omega, fun g2 hg2 => ?_⟩⟩
      have hg2' : g2 = min (min (P 11 j) (P 4 y - s 0 y)) ((s 0 x - s 0 y) / 2) := by rw [hg2, hg1]
      rw [← hg2'] at heq
      have hn : 0 ≤ g2 ∧ g2 ≤ s 0 x ∧ s 0 y + g2 ≤ P 4 y := by omega
      have hd := dvr a2 hn.1 hn.2.1
      refine c_lose (k := k) (l := l) hR ho ⟨e0, e1, e2, e3, f5, f6, f7, f8⟩ hx0.1 (by omega) hn.1 hn.2.1 (by omega) a2 (by omega) fun A' hs' hX hsc => ?_
      obtain ⟨t0, t1, t2, t3, t5, t6, t7, t8⟩ := hs'
      refine b_X2_level_126 hR ho (la_Flow_4 ho) (ln_Flow_4 ho) ⟨by omega, by omega, by omega, fun A1 hA1 => ⟨by omega, by omega, ?_⟩⟩
      have r1 : A1 (o + 18) = (tkS x g2 s) 0 := by rw [hA1]; simp only [ne_eq, Int.add_right_inj, Int.reduceEq, not_false_eq_true, st2_n, st2_s, u1_s, u1_u1, t0]
      have r2 : (tkS x g2 s) 0 y = s 0 y := (tkS_o hx0.2.2.2.2).1
      have r3 : (tkS x g2 s) 1 y = s 1 y := (tkS_o hx0.2.2.2.2).2
      rw [r1, r2]
      refine ⟨by omega, fun A2 hA2 => ⟨by omega, ?_⟩⟩
      have x5 : FX o l F A F A2 := by rw [hA2, hA1]; exact (hX.a (by omega) (by omega)).a (by omega) (by omega)
      refine c_levelL hR ho hP hK m (j + 1) (joinS P j s) F A2 _ _ _ _ (hE.fx ho x5) ?_ hI' (by omega) (by omega) fun F' A'' y1 y2 => hq F' A'' y1 (x5.trans y2)
      rw [← heq]
      refine ⟨?_, ?_, ?_, ?_, ?_, ?_, ?_, ?_⟩
      · rw [hA2]; unfold gvS; simp only [ne_eq, Int.add_right_inj, Int.reduceEq, not_false_eq_true, st2_n, st2_s, u1_s, u1_u1, r1, r2]
      · rw [hA2, hA1]; unfold gvS; simp only [ne_eq, Int.add_right_inj, Int.reduceEq, not_false_eq_true, st2_n, st2_s, u1_s, u1_u1, t1, r3]
      · rw [hA2, hA1]; unfold gvS; simp only [ne_eq, Int.add_right_inj, Int.reduceEq, not_false_eq_true, st2_n, st2_s, u1_s, u1_u1]; exact t2
      · rw [hA2, hA1]; unfold gvS; simp only [ne_eq, Int.add_right_inj, Int.reduceEq, not_false_eq_true, st2_n, st2_s, u1_s, u1_u1]; exact t3
      · unfold gvS; simp only [ne_eq, Int.add_right_inj, Int.reduceEq, not_false_eq_true, st2_n, st2_s, u1_s, u1_u1]; exact t5
      · unfold gvS; simp only [ne_eq, Int.add_right_inj, Int.reduceEq, not_false_eq_true, st2_n, st2_s, u1_s, u1_u1]; exact t6
      · unfold gvS; simp only [ne_eq, Int.add_right_inj, Int.reduceEq, not_false_eq_true, st2_n, st2_s, u1_s, u1_u1]; exact t7
      · unfold gvS; simp only [ne_eq, Int.add_right_inj, Int.reduceEq, not_false_eq_true, st2_n, st2_s, u1_s, u1_u1]; exact t8
    refine b_X2_level_2 hR ho hE.1 hE.2.1 ⟨fun hx => ?_, fun _ => ?_⟩
    · rw [hS.2.2] at hx; omega
    rw [hS.1 9 (by omega) (by omega), hS.1 10 (by omega) (by omega), e0]
    refine ⟨by omega, by omega, fun g1 hg1 g2 hg2 => ⟨by omega, by omega, by omega, by omega, fun hz => ?_, fun hz g3 hg3 => ?_⟩⟩
    · exact main g1 g2 _ _ (Or.inl ⟨hg1, hg2⟩) (by omega)
    · exact main g2 g3 _ _ (Or.inr ⟨hg2, hg3⟩) (by rw [hg3, ← hg1]; omega)
theorem c_throwL {X : Int × (Int → Int)} {k : Nat} {Q : Vv → Fn2 → Fn2 → Fn2 → Prop} {R : Fn2} {o q l K c g r many : Int} {P : Fn2} {C : Nat → Option (List Int)} (hR : RS R) (ho : At_Flow o) (hP : WFP P) (hK : K ≤ 41000000) : ∀ (f : Nat) (st u t a : Int) (s F A : Fn2) (w5 w6 w7 w8 w9 : Vv), FE o q l P C F A R → FS o s F A → Iv P K t c a g s → t + 30 * f ≤ 1000000000 → a + 30 * f ≤ 1000000000 → 0 ≤ st → st + f = 8 → u < P 0 0 → (∀ F' A', FS o (thrS P many f u s) F' A' → FX o l F A F' A' → SC o A A' → Q vN F' A' R) → G X (k + 1) m_X2_throwUp Q 13 [vA o, vI r, vI many, vI u, vI st, w5, w6, w7, w8, w9] [] F A R
  | 0, st, u, t, a, s, F, A, w5, w6, w7, w8, w9, hE, hs, hI, ht, ha, hst, hf, hu, hq => by
    refine b_X2_throwUp_13 hR ho hE.1 hE.2.1 ⟨fun _ => hq F A hs FX.refl SC.refl, fun hx => by omega⟩
  | f + 1, st, u, t, a, s, F, A, w5, w6, w7, w8, w9, hE, hs, hI, ht, ha, hst, hf, hu, hq => by
    have hrr := hP.1
    obtain ⟨e0, e1, e2, e3, f5, f6, f7, f8⟩ := hs
    have d1 := dj_SF hE.2.1 ho
    have hS := hE.2.2.2.2.1
    refine b_X2_throwUp_13 hR ho hE.1 hE.2.1 ⟨fun hx => by omega, fun _ => ⟨fun hx => ?_, fun hu0 => ⟨fun hx => ?_, fun hm => ?_⟩⟩⟩
    · refine hq F A ?_ FX.refl SC.refl
      unfold thrS; rw [if_pos (Or.inl hx)]; exact ⟨e0, e1, e2, e3, f5, f6, f7, f8⟩
    · refine hq F A ?_ FX.refl SC.refl
      unfold thrS; rw [if_pos (Or.inr (by omega))]; exact ⟨e0, e1, e2, e3, f5, f6, f7, f8⟩
    have hc : ¬ (u < 0 ∨ many ≤ 0) := by omega
    have hthr : Iv P K (t + 30) c (a + 30) g (thrS P many 1 u s) := by simpa using Iv.thr (many := many) hP 1 u t a s hI hu
    obtain ⟨q1, q2, q3⟩ := thr_u hI hP (by omega) hu hm
    obtain ⟨a1, a2, a3, a4⟩ := hI.1.1 u (by omega) (by omega)
    obtain ⟨p1, p2, p3, p4, p5, p6, p7, p8, -⟩ := hP.2.1 u (by omega) hu
    have a3 := a3 hu
    have hot := hI.hot hP (show 0 ≤ u by omega) (show u < 8 by omega)
    have hb2 := hI.1.2 u (by omega) hu
    have hk := hI.2.2
    unfold Bk at hk
    rw [hS.1 8 (by omega) (by omega), e0, e3]
    refine ⟨by omega, by omega, fun g1 hg1 g2 hg2 A3 hA3 g4 hg4 => ?_⟩
    have w2e : A3 (o + 20) = s 2 := by rw [hA3]; simp only [ne_eq, Int.add_right_inj, Int.reduceEq, not_false_eq_true, st2_n, st2_s, u1_s, u1_u1]; exact e2
    rw [w2e] at hg4
    have hg4' : g4 = min (min many (s 0 u)) (s 2 u) := by rw [hg4, hg2]
    have hn : 0 ≤ g4 ∧ g4 ≤ 30 ∧ g4 ≤ s 0 u := by rw [hg4']; exact ⟨q1, q2, q3⟩
    have hI1 : Iv P K t c a g (st2 s 3 u (max (s 3 u) g2)) := hI.o3 (by omega) (by omega)
    have z0 : (st2 s 3 u (max (s 3 u) g2)) 0 = s 0 := by rw [st2_n (by decide)]
    have z1 : (st2 s 3 u (max (s 3 u) g2)) 1 = s 1 := by rw [st2_n (by decide)]
    have hI2 := hI1.tk hP (show 0 ≤ u by omega) hu hn.1 (by rw [z0]; exact hn.2.2)
    have hsA3 : FS o (st2 s 3 u (max (s 3 u) g2)) F A3 := by
      rw [hA3]
      refine ⟨?_, ?_, ?_, ?_, ?_, ?_, ?_, ?_⟩ <;> simp only [ne_eq, Int.add_right_inj, Int.reduceEq, not_false_eq_true, st2_n, st2_s, u1_s, u1_u1] <;> first | assumption | skip
      rw [e3]
    refine c_lose (k := k) (l := l) hR ho hsA3 (by omega) (by omega) hn.1 (by rw [z0]; exact hn.2.2) (by rw [z0]; omega) (by rw [z1]; omega) (by rw [z1]; omega) fun A' hs' hX hsc => ?_
    rw [z0, z1]
    rw [z0, z1] at hI2
    obtain ⟨hI2, hd1, hd2⟩ := hI2
    have xA3 : FX o l F A F A3 := by rw [hA3]; exact FX.refl.a (by omega) (by omega)
    have sA3 : SC o A A3 := by rw [hA3]; exact SC.refl.a (by omega) (by omega)
    have xA' := xA3.trans hX
    have sA' := sA3.trans hsc
    have hE' := hE.fx ho xA'
    have hS' := hE'.2.2.2.2.1
    have unf : thrS P many (f + 1) u s = thrS P many f (P 8 u) (if 0 < (if P 8 u < 0 then 0 else min g4 (P 4 (P 8 u) - (tkS u g4 (st2 s 3 u (max (s 3 u) g2))) 0 (P 8 u))) then gvS (P 8 u) (if P 8 u < 0 then 0 else min g4 (P 4 (P 8 u) - (tkS u g4 (st2 s 3 u (max (s 3 u) g2))) 0 (P 8 u))) (s 1 u * g4 / s 0 u * (if P 8 u < 0 then 0 else min g4 (P 4 (P 8 u) - (tkS u g4 (st2 s 3 u (max (s 3 u) g2))) 0 (P 8 u))) / g4) (st2 (st2 (tkS u g4 (st2 s 3 u (max (s 3 u) g2))) 9 15 ((tkS u g4 (st2 s 3 u (max (s 3 u) g2))) 9 15 + (g4 - (if P 8 u < 0 then 0 else min g4 (P 4 (P 8 u) - (tkS u g4 (st2 s 3 u (max (s 3 u) g2))) 0 (P 8 u)))))) 9 17 ((tkS u g4 (st2 s 3 u (max (s 3 u) g2))) 9 17 + (g4 - (if P 8 u < 0 then 0 else min g4 (P 4 (P 8 u) - (tkS u g4 (st2 s 3 u (max (s 3 u) g2))) 0 (P 8 u)))))) else (st2 (st2 (tkS u g4 (st2 s 3 u (max (s 3 u) g2))) 9 15 ((tkS u g4 (st2 s 3 u (max (s 3 u) g2))) 9 15 + (g4 - (if P 8 u < 0 then 0 else min g4 (P 4 (P 8 u) - (tkS u g4 (st2 s 3 u (max (s 3 u) g2))) 0 (P 8 u)))))) 9 17 ((tkS u g4 (st2 s 3 u (max (s 3 u) g2))) 9 17 + (g4 - (if P 8 u < 0 then 0 else min g4 (P 4 (P 8 u) - (tkS u g4 (st2 s 3 u (max (s 3 u) g2))) 0 (P 8 u))))))) := by
      conv => lhs; unfold thrS
      rw [if_neg hc, hg4', hg2]
    have unf1 := unf
    rw [unf] at hq
    have hth : thrS P many 1 u s = (if 0 < (if P 8 u < 0 then 0 else min g4 (P 4 (P 8 u) - (tkS u g4 (st2 s 3 u (max (s 3 u) g2))) 0 (P 8 u))) then gvS (P 8 u) (if P 8 u < 0 then 0 else min g4 (P 4 (P 8 u) - (tkS u g4 (st2 s 3 u (max (s 3 u) g2))) 0 (P 8 u))) (s 1 u * g4 / s 0 u * (if P 8 u < 0 then 0 else min g4 (P 4 (P 8 u) - (tkS u g4 (st2 s 3 u (max (s 3 u) g2))) 0 (P 8 u))) / g4) (st2 (st2 (tkS u g4 (st2 s 3 u (max (s 3 u) g2))) 9 15 ((tkS u g4 (st2 s 3 u (max (s 3 u) g2))) 9 15 + (g4 - (if P 8 u < 0 then 0 else min g4 (P 4 (P 8 u) - (tkS u g4 (st2 s 3 u (max (s 3 u) g2))) 0 (P 8 u)))))) 9 17 ((tkS u g4 (st2 s 3 u (max (s 3 u) g2))) 9 17 + (g4 - (if P 8 u < 0 then 0 else min g4 (P 4 (P 8 u) - (tkS u g4 (st2 s 3 u (max (s 3 u) g2))) 0 (P 8 u)))))) else (st2 (st2 (tkS u g4 (st2 s 3 u (max (s 3 u) g2))) 9 15 ((tkS u g4 (st2 s 3 u (max (s 3 u) g2))) 9 15 + (g4 - (if P 8 u < 0 then 0 else min g4 (P 4 (P 8 u) - (tkS u g4 (st2 s 3 u (max (s 3 u) g2))) 0 (P 8 u)))))) 9 17 ((tkS u g4 (st2 s 3 u (max (s 3 u) g2))) 9 17 + (g4 - (if P 8 u < 0 then 0 else min g4 (P 4 (P 8 u) - (tkS u g4 (st2 s 3 u (max (s 3 u) g2))) 0 (P 8 u))))))) := by
      conv => lhs; unfold thrS
      rw [if_neg hc, hg4', hg2]
      rfl
    rw [hth] at hthr
    clear unf unf1 hth
    rw [← hg1] at hq hthr
    obtain ⟨t0, t1, t2, t3, t5, t6, t7, t8⟩ := hs'
    have hk2 := hI2.2.2
    unfold Bk at hk2
    have hup : g1 < P 0 0 := by omega
    generalize s 1 u * g4 / s 0 u = sh at *
    generalize tkS u g4 (st2 s 3 u (max (s 3 u) g2)) = tt at *
    have t0' := t0
    refine b_X2_throwUp_88 hR ho hE'.1 hE'.2.1 ⟨fun hz => ?_, fun hz => ?_⟩
    · rw [hS'.1 4 (by omega) (by omega), t0]
      obtain ⟨b1, b2, b3, b4⟩ := hI2.1.1 g1 (by omega) (by omega)
      have b3 := b3 hup
      have hp4 := (hP.2.1 g1 (by omega) hup).2.1
      have hoty := hI2.hot hP (show 0 ≤ g1 by omega) (show g1 < 8 by omega)
      have hpp : 0 ≤ pp g4 sh := pp_0
      rw [if_neg hz] at hq hthr
      refine ⟨by omega, by omega, by omega, fun kk hkk => ?_⟩
      rw [← hkk] at hq hthr
      have hkk2 : 0 ≤ kk ∧ kk ≤ g4 ∧ tt 0 g1 + kk ≤ P 4 g1 := by omega
      rw [t5]
      refine ⟨fun hk0 => ⟨by omega, by omega, fun F2 hF2 => ?_⟩, fun hk0 => ?_⟩
      · rw [if_neg hk0] at hq hthr
        have r7 : F2 o 17 = tt 9 17 := by rw [hF2, st2_s, u1_n (by omega)]; exact t7
        rw [r7]
        refine ⟨by omega, fun F3 hF3 => ⟨by omega, ?_⟩⟩
        have x5 : FX o l F A F3 A' := by rw [hF3, hF2]; exact (xA'.f (by omega) (by omega)).f (by omega) (by omega)
        refine c_throwL hR ho hP hK f (st + 1) g1 (t + 30) (a + 30) _ F3 A' _ _ _ _ _ (hE.fx ho x5) ?_ hthr (by omega) (by omega) (by omega) (by omega) hup (fun F' A'' y1 y2 y3 => hq F' A'' y1 (x5.trans y2) (sA'.trans y3))
        refine ⟨?_, ?_, ?_, ?_, ?_, ?_, ?_, ?_⟩
        · simp only [ne_eq, Int.add_right_inj, Int.reduceEq, not_false_eq_true, st2_n, st2_s, u1_s, u1_u1]; exact t0
        · simp only [ne_eq, Int.add_right_inj, Int.reduceEq, not_false_eq_true, st2_n, st2_s, u1_s, u1_u1]; exact t1
        · simp only [ne_eq, Int.add_right_inj, Int.reduceEq, not_false_eq_true, st2_n, st2_s, u1_s, u1_u1]; exact t2
        · simp only [ne_eq, Int.add_right_inj, Int.reduceEq, not_false_eq_true, st2_n, st2_s, u1_s, u1_u1]; exact t3
        · rw [hF3, hF2]; simp only [ne_eq, Int.add_right_inj, Int.reduceEq, not_false_eq_true, st2_n, st2_s, u1_s, u1_u1, u1_n]
        · rw [hF3, hF2]; simp only [ne_eq, Int.add_right_inj, Int.reduceEq, not_false_eq_true, st2_n, st2_s, u1_s, u1_u1, u1_n]; exact t6
        · rw [hF3]; simp only [ne_eq, Int.add_right_inj, Int.reduceEq, not_false_eq_true, st2_n, st2_s, u1_s, u1_u1, u1_n]
        · rw [hF3, hF2]; simp only [ne_eq, Int.add_right_inj, Int.reduceEq, not_false_eq_true, st2_n, st2_s, u1_s, u1_u1, u1_n]; exact t8
      · rw [if_pos hk0] at hq hthr
        have hmm := mul_b hd1 (show sh ≤ 42000000 by omega) hkk2.1 (show kk ≤ 30 by omega)
        have hdv := dvr hd1 hkk2.1 hkk2.2.1
        refine ⟨by omega, fun A4 hA4 => ?_⟩
        have r4 : A4 (o + 19) = tt 1 := by rw [hA4]; simp only [ne_eq, Int.add_right_inj, Int.reduceEq, not_false_eq_true, st2_n, st2_s, u1_s, u1_u1, t1]
        rw [r4]
        refine ⟨by omega, by omega, by omega, by omega, by omega, fun A5 hA5 => ⟨by omega, by omega, fun F6 hF6 => ?_⟩⟩
        have r7 : F6 o 17 = tt 9 17 := by rw [hF6, st2_s, u1_n (by omega)]; exact t7
        rw [r7]
        refine ⟨by omega, fun F7 hF7 => ⟨by omega, ?_⟩⟩
        have x5 : FX o l F A F7 A5 := by rw [hF7, hF6, hA5, hA4]; exact (((xA'.f (by omega) (by omega)).f (by omega) (by omega)).a (by omega) (by omega)).a (by omega) (by omega)
        have s5 : SC o A A5 := by rw [hA5, hA4]; exact (sA'.a (by omega) (by omega)).a (by omega) (by omega)
        refine c_throwL hR ho hP hK f (st + 1) g1 (t + 30) (a + 30) _ F7 A5 _ _ _ _ _ (hE.fx ho x5) ?_ hthr (by omega) (by omega) (by omega) (by omega) hup (fun F' A'' y1 y2 y3 => hq F' A'' y1 (x5.trans y2) (s5.trans y3))
        refine ⟨?_, ?_, ?_, ?_, ?_, ?_, ?_, ?_⟩
        · rw [hA5, hA4]; unfold gvS; simp only [ne_eq, Int.add_right_inj, Int.reduceEq, not_false_eq_true, st2_n, st2_s, u1_s, u1_u1, t0]
        · rw [hA5]; unfold gvS; simp only [ne_eq, Int.add_right_inj, Int.reduceEq, not_false_eq_true, st2_n, st2_s, u1_s, u1_u1, r4]
        · rw [hA5, hA4]; unfold gvS; simp only [ne_eq, Int.add_right_inj, Int.reduceEq, not_false_eq_true, st2_n, st2_s, u1_s, u1_u1]; exact t2
        · rw [hA5, hA4]; unfold gvS; simp only [ne_eq, Int.add_right_inj, Int.reduceEq, not_false_eq_true, st2_n, st2_s, u1_s, u1_u1]; exact t3
        · rw [hF7, hF6]; unfold gvS; simp only [ne_eq, Int.add_right_inj, Int.reduceEq, not_false_eq_true, st2_n, st2_s, u1_s, u1_u1, u1_n]
        · rw [hF7, hF6]; unfold gvS; simp only [ne_eq, Int.add_right_inj, Int.reduceEq, not_false_eq_true, st2_n, st2_s, u1_s, u1_u1, u1_n]; exact t6
        · rw [hF7]; unfold gvS; simp only [ne_eq, Int.add_right_inj, Int.reduceEq, not_false_eq_true, st2_n, st2_s, u1_s, u1_u1, u1_n]
        · rw [hF7, hF6]; unfold gvS; simp only [ne_eq, Int.add_right_inj, Int.reduceEq, not_false_eq_true, st2_n, st2_s, u1_s, u1_u1, u1_n]; exact t8
    · rw [if_pos hz, if_neg (by omega)] at hq hthr
      rw [t5]
      refine ⟨by omega, by omega, fun F9 hF9 => ?_⟩
      have r7 : F9 o 17 = tt 9 17 := by rw [hF9, st2_s, u1_n (by omega)]; exact t7
      rw [r7]
      refine ⟨by omega, fun F10 hF10 => ⟨by omega, ?_⟩⟩
      have x5 : FX o l F A F10 A' := by rw [hF10, hF9]; exact (xA'.f (by omega) (by omega)).f (by omega) (by omega)
      refine c_throwL hR ho hP hK f (st + 1) g1 (t + 30) (a + 30) _ F10 A' _ _ _ _ _ (hE.fx ho x5) ?_ hthr (by omega) (by omega) (by omega) (by omega) hup (fun F' A'' y1 y2 y3 => hq F' A'' y1 (x5.trans y2) (sA'.trans y3))
      refine ⟨?_, ?_, ?_, ?_, ?_, ?_, ?_, ?_⟩
      · simp only [ne_eq, Int.add_right_inj, Int.reduceEq, not_false_eq_true, st2_n, st2_s, u1_s, u1_u1]; exact t0
      · simp only [ne_eq, Int.add_right_inj, Int.reduceEq, not_false_eq_true, st2_n, st2_s, u1_s, u1_u1]; exact t1
      · simp only [ne_eq, Int.add_right_inj, Int.reduceEq, not_false_eq_true, st2_n, st2_s, u1_s, u1_u1]; exact t2
      · simp only [ne_eq, Int.add_right_inj, Int.reduceEq, not_false_eq_true, st2_n, st2_s, u1_s, u1_u1]; exact t3
      · rw [hF10, hF9]; simp only [ne_eq, Int.add_right_inj, Int.reduceEq, not_false_eq_true, st2_n, st2_s, u1_s, u1_u1, u1_n]
      · rw [hF10, hF9]; simp only [ne_eq, Int.add_right_inj, Int.reduceEq, not_false_eq_true, st2_n, st2_s, u1_s, u1_u1, u1_n]; exact t6
      · rw [hF10]; simp only [ne_eq, Int.add_right_inj, Int.reduceEq, not_false_eq_true, st2_n, st2_s, u1_s, u1_u1, u1_n]
      · rw [hF10, hF9]; simp only [ne_eq, Int.add_right_inj, Int.reduceEq, not_false_eq_true, st2_n, st2_s, u1_s, u1_u1, u1_n]; exact t8
