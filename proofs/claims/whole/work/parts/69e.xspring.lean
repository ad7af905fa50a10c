/-! THE CALL spring, the reference -/
theorem x_takeL {X : Int × (Int → Int)} {k : Nat} {Q : Vv → Fn2 → Fn2 → Fn2 → Prop} {R : Fn2} {σ : Sg} {n : Int} {F A0 : Fn2} (hR : RS R) (hn : 0 ≤ n ∧ n ≤ 900) (h3 : F 373 3 = n) (hb : ∀ k, 0 ≤ k → k < n → A0 374 k = bi2b (σ.1 1 k)) (hq : ∀ F' A', (∀ a f, a ≠ 373 ∨ f ≠ 2 ∧ f ≠ 7 → F' a f = F a f) → F' 373 2 = 0 → F' 373 7 = 0 → (∀ a, a ≠ 375 → A' a = A0 a) → (∀ k, 0 ≤ k → k < n → A' 375 k = bi2b (σ.1 1 k)) → Q vN F' A' R) : ∀ (m j : Nat) (A : Fn2), (j : Int) + m = n → (∀ a, a ≠ 375 → A a = A0 a) → (∀ k, 0 ≤ k → k < (j : Int) → A 375 k = bi2b (σ.1 1 k)) → G X k m_X11_takeTape Q 20 [vA 373, vI j] [] F A R := by
  intro m
  induction m with
  | zero =>
    intro j A hj hA h5
    refine b_X11_takeTape_20 hR ⟨fun _ F1 hF1 F2 hF2 => ?_, fun h => by omega⟩
    have x1 := st373 hF1
    have x2 := st373 hF2
    exact hq F2 A (fun a f h => by rw [x2 a f (by omega), x1 a f (by omega)]) (by rw [x2 373 2 (by omega), hF1, st2_s, u1_s]) (by rw [hF2, st2_s, u1_s]) hA (fun k a b => h5 k a (by omega))
  | succ m ih =>
    intro j A hj hA h5
    have hv : A 374 j = bi2b (σ.1 1 j) := by rw [hA 374 (by decide)]; exact hb j (by omega) (by omega)
    have rg := bi2b_rng (σ.1 1 j)
    refine b_X11_takeTape_20 hR ⟨fun h => by omega, fun _ => ⟨by omega, by omega, by omega, by omega, by omega, fun A3 hA3 => ⟨by omega, ?_⟩⟩⟩
    refine ih (j + 1) A3 (by omega) (fun a ha => by rw [hA3, st2_n ha]; exact hA a ha) (fun k k0 k1 => ?_)
    rw [hA3, st2_s]
    by_cases e : k = j
    · subst e; rw [u1_s]; exact hv
    · rw [u1_n e]; exact h5 k k0 (by omega)
/-- the text is taken -/
theorem x_takeTape {X : Int × (Int → Int)} {k : Nat} {Q : Vv → Fn2 → Fn2 → Fn2 → Prop} {F A R : Fn2} {σ : Sg} {b : Int → Int} (hR : RS R) (hS : SgI σ) (hX : XI σ b F A) (hq : ∀ F' A', (∀ a f, a ≠ 373 ∨ f ≠ 2 ∧ f ≠ 3 ∧ f ≠ 4 ∧ f ≠ 5 ∧ f ≠ 7 → F' a f = F a f) → (∀ a, a ≠ 375 → A' a = A a) → F' 373 2 = 0 → F' 373 3 = σ.1 0 0 → F' 373 4 = 0 → F' 373 5 = -1 → F' 373 7 = 0 → TxX (σ.1 1) (σ.1 0 0) A' R → Q vN F' A' R) : Wp X (k + 1) m_X11_takeTape [vA 373] F A R Q := by
  have s1 := hS.1
  have s8 := hS.2.2.2.2.2.2.2.1
  refine Wp.of [vA 373, vN] rfl rfl rfl (b_X11_takeTape_0 fun F1 hF1 F2 hF2 F3 hF3 => ?_)
  have x1 := st373 hF1
  have x2 := st373 hF2
  have x3 := st373 hF3
  rw [x2 373 2 (by omega), x1 373 2 (by omega), hX.2.2.2.2.1] at hF3
  have e3 : F3 373 3 = σ.1 0 0 := by rw [hF3, st2_s, u1_s]
  refine x_takeL (k := k) (σ := σ) (n := σ.1 0 0) (F := F3) (A0 := A) hR s1 e3 (fun k a c => hX.2.2.2.2.2.1 k a c) (fun F' A' e4 e5 e6 e7 e8 => hq F' A' (fun a f h => by rw [e4 a f (by omega), x3 a f (by omega), x2 a f (by omega), x1 a f (by omega)]) e7 e5 (by rw [e4 373 3 (by omega), e3]) (by rw [e4 373 4 (by omega), x3 373 4 (by omega), x2 373 4 (by omega), hF1, st2_s, u1_s]) (by rw [e4 373 5 (by omega), x3 373 5 (by omega), hF2, st2_s, u1_s]) e6 ⟨hR, by omega, fun i a c => ⟨e8 i a c, (s8 i a c).1, (s8 i a c).2⟩⟩) (σ.1 0 0).toNat 0 A (by omega) (fun _ _ => rfl) (fun k a c => by omega)
/-- the reference's cells behind a new text -/
theorem xs_sp {σ σ' : Sg} {a c : Int} {b b' : Int → Int} {F A F' A' : Fn2} (h : XI σ b F A) (e1 : σ'.1 = st2 (flG σ a c).1 0 5 (F' 373 35)) (hb : ∀ i, 0 ≤ i → i ≤ 4 → 0 ≤ b' i ∧ b' i ≤ 4) (hd : ∀ i j, 0 ≤ i → i < j → j ≤ 4 → b' i ≠ b' j) (hsp : ∀ i : Nat, i < 4 → A' 376 i = b' i ∧ PEq (σ'.2.1 i) (RPm (b' i) A') ∧ WFP (RPm (b' i) A')) (h25 : F' 373 25 = b' 4) (h2 : F' 373 2 = 0) (hL : XLw A' σ'.2.2) (hF : ∀ f, f = 55 ∨ f = 56 ∨ f = 72 ∨ f = 73 ∨ f = 78 → F' 373 f = F 373 f) (hA : ∀ z, 408 ≤ z ∧ z ≤ 411 ∨ 417 ≤ z ∧ z ≤ 419 → A' z = A z) (f4 : F' 373 4 = a) (f5 : F' 373 5 = c) : XI σ' b' F' A' := by
  obtain ⟨h1, h2', h3, h4, h5, h6, h7, h8, h9, h10, ⟨h11, h12, h13⟩, ⟨h14, h15⟩, h16, h17⟩ := h
  have z : ∀ i j, i ≠ 0 ∨ j ≠ 5 → σ'.1 i j = (flG σ a c).1 i j := fun i j h => by
    rw [e1]
    by_cases e : i = 0
    · subst e; rw [st2_s, u1_n (by omega)]
    · rw [st2_n e]
  have zr : ∀ i, i ≠ 0 → σ'.1 i = σ.1 i := fun i h => by rw [e1, st2_n h, flG_r h]
  have z0 : ∀ j, j ≠ 0 → j ≠ 3 → j ≠ 4 → j ≠ 5 → σ'.1 0 j = σ.1 0 j := fun j a b c d => by rw [z _ _ (by omega), flG_n (by omega)]
  refine ⟨hb, hd, hsp, h25, ?_, fun k k0 k1 => ?_, hL, ?_, ?_, ?_, ⟨?_, ?_, fun i i0 i1 => ?_⟩, ⟨?_, fun i i0 i1 => ?_⟩, ?_, ?_⟩
  · rw [z _ _ (by decide), flG_0.1]; exact h2
  · rw [z _ _ (by decide), flG_0.1] at k1; omega
  · rw [e1, st2_s, u1_s]
  · rw [z0 _ (by decide) (by decide) (by decide) (by decide), hF _ (by omega)]; exact h9
  · rw [z0 _ (by decide) (by decide) (by decide) (by decide), hF _ (by omega)]; exact h10
  · rw [z0 _ (by decide) (by decide) (by decide) (by decide), hF _ (by omega)]; exact h11
  · rw [z0 _ (by decide) (by decide) (by decide) (by decide), hF _ (by omega)]; exact h12
  · rw [z0 _ (by decide) (by decide) (by decide) (by decide)] at i1
    rw [zr _ (by decide), zr _ (by decide), zr _ (by decide), zr _ (by decide), hA _ (by omega), hA _ (by omega), hA _ (by omega), hA _ (by omega)]; exact h13 i i0 i1
  · rw [z0 _ (by decide) (by decide) (by decide) (by decide), hF _ (by omega)]; exact h14
  · rw [z0 _ (by decide) (by decide) (by decide) (by decide)] at i1
    rw [zr _ (by decide), zr _ (by decide), zr _ (by decide), hA _ (by omega), hA _ (by omega), hA _ (by omega)]; exact h15 i i0 i1
  · rw [z _ _ (by decide), flG_0.2.1]; exact f4
  · rw [z _ _ (by decide), flG_0.2.2]; exact f5
theorem RPm_row {b i r : Int} {A : Fn2} (h : 3 ≤ i ∧ i ≤ 7) : RPm b A i r = A (377 + i) (8 * b + r) := by
  unfold RPm
  rw [if_neg (by omega), if_neg (by omega), if_pos (by omega)]
theorem RPm_jrow {b i r : Int} {A : Fn2} (h : 9 ≤ i ∧ i ≤ 11) : RPm b A i r = A (377 + i) (4 * b + r) := by
  unfold RPm
  rw [if_neg (by omega), if_neg (by omega), if_neg (by omega), if_pos (by omega)]
theorem SpX.pr {b : Int} {S : Sp} {A : Fn2} (h : SpX b S A) (hW : WfS S) : PEq S.1 (RPm b A) ∧ WFP (RPm b A) := by
  obtain ⟨h1, h2, h3, h4⟩ := h
  have e0 : RPm b A 0 0 = S.1 0 0 := by rw [← h1]; simp [RPm]
  have e1 : RPm b A 0 1 = S.1 0 1 := by rw [← h2]; simp [RPm]
  refine ⟨⟨e0.symm, e1.symm, fun r r0 r1 => ?_, fun j j0 j1 => ?_⟩, ?_⟩
  · obtain ⟨y1, y2, y3, y4⟩ := h3 r r0 r1
    rw [RPm_1, RPm_row (i := 3) (by decide), RPm_row (i := 4) (by decide), RPm_row (i := 5) (by decide), RPm_row (i := 6) (by decide), RPm_row (i := 7) (by decide), RPm_8]
    refine ⟨y1.symm, (y2 3 (by decide) (by decide)).symm, (y2 4 (by decide) (by decide)).symm, (y2 5 (by decide) (by decide)).symm, (y2 6 (by decide) (by decide)).symm, (y2 7 (by decide) (by decide)).symm, ?_⟩
    omega
  · have y := h4 j j0 j1
    rw [RPm_jrow (i := 9) (by decide), RPm_jrow (i := 10) (by decide), RPm_jrow (i := 11) (by decide)]
    exact ⟨(y 9 (by decide) (by decide)).symm, (y 10 (by decide) (by decide)).symm, (y 11 (by decide) (by decide)).symm⟩
  · obtain ⟨a, c, d⟩ := hW.1
    refine ⟨by rw [e0, e1]; exact a, fun r r0 r1 => ?_, fun j j0 j1 => ?_⟩
    · rw [e0] at r1
      obtain ⟨y1, y2, y3, y4⟩ := h3 r r0 r1
      have := c r r0 r1
      rw [RPm_row (i := 3) (by decide), RPm_row (i := 4) (by decide), RPm_row (i := 5) (by decide), RPm_row (i := 6) (by decide), RPm_row (i := 7) (by decide), RPm_8, y2 3 (by decide) (by decide), y2 4 (by decide) (by decide), y2 5 (by decide) (by decide), y2 6 (by decide) (by decide), y2 7 (by decide) (by decide)]
      omega
    · rw [e1] at j1
      have y := h4 j j0 j1
      rw [RPm_jrow (i := 9) (by decide), RPm_jrow (i := 10) (by decide), RPm_jrow (i := 11) (by decide), y 9 (by decide) (by decide), y 10 (by decide) (by decide), y 11 (by decide) (by decide), e0]
      exact d j j0 j1
theorem PEq.trans' {P P1 P2 : Fn2} (h : PEq P P1) (g : PEq P1 P2) : PEq P P2 := by
  obtain ⟨a, b, c, d⟩ := h
  obtain ⟨a', b', c', d'⟩ := g
  refine ⟨a.trans a', b.trans b', fun r r0 r1 => ?_, fun j j0 j1 => ?_⟩
  · obtain ⟨x1, x2, x3, x4, x5, x6, x7⟩ := c r r0 r1
    obtain ⟨y1, y2, y3, y4, y5, y6, y7⟩ := c' r r0 (by omega)
    refine ⟨x1.trans y1, x2.trans y2, x3.trans y3, x4.trans y4, x5.trans y5, x6.trans y6, ?_⟩
    omega
  · obtain ⟨x1, x2, x3⟩ := d j j0 j1
    obtain ⟨y1, y2, y3⟩ := d' j j0 (by omega)
    exact ⟨x1.trans y1, x2.trans y2, x3.trans y3⟩
/-- other banks stand -/
theorem RPm_fa {b c : Int} {A A' : Fn2} (h : FA b A A') (hc : c ≠ b) (P : Fn2) (hP : PEq P (RPm c A) ∧ WFP (RPm c A)) : PEq P (RPm c A') ∧ WFP (RPm c A') := by
  obtain ⟨⟨a, e, d, f⟩, ⟨w1, w2, w3⟩⟩ := hP
  obtain ⟨x1, x2, x3, x4⟩ := h
  have y0 : RPm c A' 0 0 = RPm c A 0 0 := by
    have := x2 377 c (by omega) hc
    simp only [RPm]; exact this
  have y1 : RPm c A' 0 1 = RPm c A 0 1 := by
    have := x2 378 c (by omega) hc
    simp only [RPm]; exact this
  have yr : ∀ i r, i = 1 ∨ 3 ≤ i ∧ i ≤ 8 → 0 ≤ r → r < 8 → RPm c A' i r = RPm c A i r := fun i r hi r0 r8 => by
    by_cases e1 : i = 1
    · subst e1; rw [RPm_1, RPm_1]; exact x3 _ _ (by omega) (by omega)
    · by_cases e8 : i = 8
      · subst e8; rw [RPm_8, RPm_8]; exact x3 _ _ (by omega) (by omega)
      · rw [RPm_row (by omega), RPm_row (by omega)]; exact x3 _ _ (by omega) (by omega)
  have yj : ∀ i r, 9 ≤ i → i ≤ 11 → 0 ≤ r → r < 4 → RPm c A' i r = RPm c A i r := fun i r i0 i1 r0 r4 => by
    rw [RPm_jrow (by omega), RPm_jrow (by omega)]; exact x4 _ _ (by omega) (by omega) (by omega)
  refine ⟨⟨by rw [y0]; exact a, by rw [y1]; exact e, fun r r0 r1 => ?_, fun j j0 j1 => ?_⟩, ⟨by rw [y0, y1]; exact w1, fun r r0 r1 => ?_, fun j j0 j1 => ?_⟩⟩
  · have r8 : r < 8 := by omega
    rw [yr 1 r (by omega) r0 r8, yr 3 r (by omega) r0 r8, yr 4 r (by omega) r0 r8, yr 5 r (by omega) r0 r8, yr 6 r (by omega) r0 r8, yr 7 r (by omega) r0 r8, yr 8 r (by omega) r0 r8]
    exact d r r0 r1
  · have j4 : j < 4 := by omega
    rw [yj 9 j (by omega) (by omega) j0 j4, yj 10 j (by omega) (by omega) j0 j4, yj 11 j (by omega) (by omega) j0 j4]
    exact f j j0 j1
  · rw [y0] at r1
    have r8 : r < 8 := by omega
    rw [yr 3 r (by omega) r0 r8, yr 4 r (by omega) r0 r8, yr 5 r (by omega) r0 r8, yr 6 r (by omega) r0 r8, yr 7 r (by omega) r0 r8, yr 8 r (by omega) r0 r8]
    exact w2 r r0 r1
  · rw [y1] at j1
    have j4 : j < 4 := by omega
    rw [yj 9 j (by omega) (by omega) j0 j4, yj 10 j (by omega) (by omega) j0 j4, yj 11 j (by omega) (by omega) j0 j4, y0]
    exact w3 j j0 j1
theorem r_spring {X : Int × (Int → Int)} {k : Nat} {Q : Vv → Fn2 → Fn2 → Fn2 → Prop} {F A R : Fn2} {σ : Sg} {b : Int → Int} {s : Int} (hR : RS R) (hS : SgI σ) (hX : XI σ b F A)
    (hq : ∀ F' A' b' S, 0 ≤ s → s < 4 → rdS (σ.1 1) (σ.1 0 0) = okS S → (∀ P, PEq P S.1 → XI (spG σ s P) b' F' A') → LO F A F' A' → Q (vI (S.1 0 0)) F' A' R)
    (hq0 : ∀ F' A' a c, 0 ≤ s → s < 4 → rdS (σ.1 1) (σ.1 0 0) = flS a c → 0 < a → XI (flG σ a c) b F' A' → LO F A F' A' → Q (vI (-1)) F' A' R) (hq2 : ¬ (0 ≤ s ∧ s < 4) → Q (vI (-2)) F A R) : Wp X (k + 7) m_X11_spring [vA 373, vI s] F A R Q := by
  obtain ⟨h1, h2, h3, h4, h5, h6, h7, h8, hr⟩ := id hX
  have s1 := hS.1
  refine Wp.of [vA 373, vI s] rfl rfl rfl (b_X11_spring_0 (x_isShelf (k := k + 5) (fun s0 s4 => b_X11_spring_4 ⟨fun _ => ?_, fun h => absurd h (by decide)⟩) (fun hn => b_X11_spring_4 ⟨fun h => absurd rfl h, fun _ => hq2 hn⟩)))
  refine x_takeTape (k := k + 5) hR hS hX (fun F1 A1 f1 a1 f2 f3 f4 f5 f7 ht => b_X11_spring_14 hR fun F2 hF2 => ?_)
  have x2 := st373 hF2
  have b4 := h1 4 (by decide) (by decide)
  have e25 : F1 373 25 = b 4 := by rw [f1 373 25 (by omega)]; exact h4
  rw [e25] at hF2
  have e26 : F2 373 26 = b 4 := by rw [hF2, st2_s, u1_s]
  rw [e26]
  refine ⟨b4.1, by omega, fun A2 hA2 A3 hA3 => ?_⟩
  have z0 : FA (b 4) A1 A3 := by rw [hA3, hA2]; exact (FA.st (by omega)).trans (FA.st (by omega))
  have ht3 := ht.fa z0
  refine x_next (k := k + 4) ht3 (Int.le_refl 0) s1.1 (by rw [x2 373 3 (by omega), f3]) (by rw [x2 373 7 (by omega), f7]) (fun F3 k3 g3 => ?_)
  have g4 : F3 373 4 = 0 := by rw [g3 373 4 (by omega), x2 373 4 (by omega), f4]
  have g26 : F3 373 26 = b 4 := by rw [g3 373 26 (by omega), e26]
  have X3 : SpX (b 4) S0 A3 := by
    refine ⟨by rw [hA3, st2_n (by decide), hA2, st2_s, u1_s]; rfl, by rw [hA3, st2_s, u1_s]; rfl, fun r r0 r1 => ?_, fun j j0 j1 => ?_⟩
    · have : r < (0 : Int) := r1; omega
    · have : j < (0 : Int) := j1; omega
  have W3 : WfS S0 := by
    refine ⟨⟨by decide, fun r r0 r1 => ?_, fun j j0 j1 => ?_⟩, fun r r0 r1 => ?_⟩
    · have : r < (0 : Int) := r1; omega
    · have : j < (0 : Int) := j1; omega
    · have : r < (0 : Int) := r1; omega
  have lo : ∀ F' A' : Fn2, FG4 F3 F' → FA (b 4) A3 A' → LO F A F' A' := fun F' A' y z a ha => ⟨by rw [z.1 a (by omega), z0.1 a (by omega), a1 a (by omega)], funext fun f => by rw [y.1 a f (by omega), g3 a f (by omega), x2 a f (by omega), f1 a f (by omega)]⟩
  have fk : ∀ F' : Fn2, FG4 F3 F' → ∀ f, 11 ≤ f ∧ f ≠ 26 → F' 373 f = F 373 f := fun F' y f hf => by rw [y.1 373 f (by omega), g3 373 f (by omega), x2 373 f (by omega), f1 373 f (by omega)]
  have ak : ∀ A' : Fn2, FA (b 4) A3 A' → ∀ a, a < 377 ∨ 389 < a → a ≠ 375 → A' a = A a := fun A' z a h h' => by rw [z.1 a h, z0.1 a h, a1 a h']
  have oth : ∀ (A' : Fn2) (i : Nat), FA (b 4) A3 A' → i < 4 → PEq (σ.2.1 i) (RPm (b i) A') ∧ WFP (RPm (b i) A') := fun A' i z hi => by
    have hd := h2 i 4 (by omega) (by omega) (by decide)
    have e1 : RPm (b i) A1 = RPm (b i) A := RPm_st fun a x y => a1 a (by omega)
    have := (h3 i hi).2
    rw [← e1] at this
    exact RPm_fa (z0.trans z) hd _ this
  have lw : ∀ A' : Fn2, FA (b 4) A3 A' → XLw A' σ.2.2 := fun A' z => by
    obtain ⟨c1, c2, c3⟩ := h7
    have w : ∀ i c, XL1 A i c → XL1 A' i c := fun i c hc => hc.of (ak A' z _ (by omega) (by omega)) (ak A' z _ (by omega) (by omega)) (ak A' z _ (by omega) (by omega)) (ak A' z _ (by omega) (by omega)) (ak A' z _ (by omega) (by omega))
    exact ⟨w _ _ c1, w _ _ c2, w _ _ c3⟩
  have f2' : ∀ F' : Fn2, FG4 F3 F' → F' 373 2 = 0 := fun F' y => by rw [y.1 373 2 (by omega), g3 373 2 (by omega), x2 373 2 (by omega), f2]
  refine x_lines (k := k) (rs := rdS (σ.1 1) (σ.1 0 0)) (F0 := F3) (A0 := A3) ht3 g26 b4.1 (by omega) (fun F4 A4 S e1 e4 e5' i4 w4 y4 z4 => b_X11_spring_71 hR ⟨fun _ => ⟨s0, s4, fun F5 hF5 A5 hA5 => ?_⟩, fun h => absurd h (by decide)⟩) (fun F4 A4 e1 e2 y4 z4 => b_X11_spring_71 hR ⟨fun h => absurd rfl h, fun _ => ?_⟩) 13 F3 A3 S0 0 ⟨Int.le_refl 0, s1.1, k3, Or.inl ⟨g4, rfl, by rw [g3 373 5 (by omega), x2 373 5 (by omega), f5]⟩⟩ (fun _ => ⟨X3, W3, rfl⟩) FG4.refl FA.refl
  · have x5 := st373 hF5
    have h26 : F4 373 26 = b 4 := by rw [y4.1 373 26 (by omega), g26]
    rw [x5 373 26 (by omega), h26] at hA5
    rw [x5 373 26 (by omega), h26]
    have sl : s = ((s.toNat : Nat) : Int) := by omega
    have es : A4 376 s = b s := by
      rw [ak A4 z4 376 (by omega) (by decide), sl]; exact (h3 s.toNat (by omega)).1
    rw [es] at hF5
    have a5 : ∀ a, a ≠ 376 → A5 a = A4 a := fun a h => by rw [hA5, st2_n h]
    have bs := h1 s s0 (by omega)
    rw [show A5 377 (b 4) = S.1 0 0 by rw [a5 377 (by decide)]; exact i4.1]
    refine ⟨b4.1, by omega, hq F5 A5 (fun i => if i = s then b 4 else if i = 4 then b s else b i) S s0 s4 e1 (fun P hP => ?_) ?_⟩
    · refine xs_sp (a := 0) (c := -1) hX ?_ (fun i i0 i4' => ?_) (fun i j i0 ij j4 => ?_) (fun i hi => ⟨?_, ?_⟩) ?_ (by rw [x5 373 2 (by omega)]; exact f2' F4 y4) ?_ (fun f hf => by rw [x5 373 f (by omega)]; exact fk F4 y4 f (by omega)) (fun z hz => by rw [a5 z (by omega)]; exact ak A4 z4 z (by omega) (by omega)) (by rw [x5 373 4 (by omega), e4]) ?_
      · show (flG σ 0 (-1)).1 = _
        rw [x5 373 35 (by omega), fk F4 y4 35 (by omega), h8]
        funext i j
        by_cases e : i = 0
        · subst e
          rw [st2_s]
          by_cases e5 : j = 5
          · subst e5; rw [u1_s, flG_n (by decide)]
          · rw [u1_n e5]
        · rw [st2_n e]
      · show 0 ≤ (if i = s then b 4 else if i = 4 then b s else b i) ∧ (if i = s then b 4 else if i = 4 then b s else b i) ≤ 4
        have bi := h1 i i0 i4'
        split
        · exact b4
        · split
          · exact bs
          · exact bi
      · show (if i = s then b 4 else if i = 4 then b s else b i) ≠ (if j = s then b 4 else if j = 4 then b s else b j)
        by_cases es' : i = s
        · subst es'
          rw [if_pos rfl, if_neg (by omega)]
          split
          · exact (h2 i 4 (by omega) (by omega) (by omega)).symm
          · exact (h2 j 4 (by omega) (by omega) (by omega)).symm
        · rw [if_neg es', if_neg (show ¬ i = 4 by omega)]
          by_cases js : j = s
          · subst js; rw [if_pos rfl]; exact h2 i 4 (by omega) (by omega) (by omega)
          · rw [if_neg js]
            split
            · rcases Int.lt_or_gt_of_ne es' with h | h
              · exact h2 i s i0 h (by omega)
              · exact (h2 s i s0 h (by omega)).symm
            · exact h2 i j i0 ij j4
      · show A5 376 i = if (i : Int) = s then b 4 else if (i : Int) = 4 then b s else b i
        rw [hA5, st2_s]
        by_cases e : (i : Int) = s
        · rw [if_pos e, e, u1_s]
        · rw [if_neg e, if_neg (by omega), u1_n e, ak A4 z4 376 (by omega) (by decide)]; exact (h3 i hi).1
      · show PEq (if (i : Int) = s then P else σ.2.1 i) (RPm (if (i : Int) = s then b 4 else if (i : Int) = 4 then b s else b i) A5) ∧ WFP (RPm (if (i : Int) = s then b 4 else if (i : Int) = 4 then b s else b i) A5)
        have e5 : ∀ c, RPm c A5 = RPm c A4 := fun c => RPm_st fun a x y => a5 a (by omega)
        rw [e5]
        by_cases e : (i : Int) = s
        · rw [if_pos e, if_pos e]
          have := i4.pr w4
          exact ⟨hP.trans' this.1, this.2⟩
        · rw [if_neg e, if_neg e, if_neg (by omega)]
          exact oth A4 i z4 hi
      · show F5 373 25 = if (4 : Int) = s then b 4 else if (4 : Int) = 4 then b s else b 4
        rw [if_neg (by omega), if_pos rfl, hF5, st2_s, u1_s]
      · show XLw A5 σ.2.2
        obtain ⟨c1, c2, c3⟩ := lw A4 z4
        have w : ∀ i c, XL1 A4 i c → XL1 A5 i c := fun i c hc => hc.of (a5 _ (by omega)) (a5 _ (by omega)) (a5 _ (by omega)) (a5 _ (by omega)) (a5 _ (by omega))
        exact ⟨w _ _ c1, w _ _ c2, w _ _ c3⟩
      · rw [x5 373 5 (by omega), e5']
    · intro a ha
      have := lo F4 A4 y4 z4 a ha
      exact ⟨by rw [a5 a (by omega)]; exact this.1, by rw [← this.2]; exact funext fun f => x5 a f (by omega)⟩
  · refine hq0 F4 A4 _ _ s0 s4 e1 e2 ?_ (lo F4 A4 y4 z4)
    refine xs_sp (a := F4 373 4) (c := F4 373 5) hX ?_ h1 h2 (fun i hi => ⟨by rw [ak A4 z4 376 (by omega) (by decide)]; exact (h3 i hi).1, oth A4 i z4 hi⟩) (by rw [fk F4 y4 25 (by omega)]; exact h4) (f2' F4 y4) (lw A4 z4) (fun f hf => fk F4 y4 f (by omega)) (fun z hz => ak A4 z4 z (by omega) (by omega)) rfl rfl
    rw [fk F4 y4 35 (by omega), h8]
    show (flG σ _ _).1 = _
    funext i j
    by_cases e : i = 0
    · subst e
      rw [st2_s]
      by_cases e5 : j = 5
      · subst e5; rw [u1_s, flG_n (by decide)]
      · rw [u1_n e5]
    · rw [st2_n e]
