/-! THE CALL spring, both sides -/
/-- bytes gone, fault a at b -/
def flG (σ : Sg) (a b : Int) : Sg := (fun i j => if i = 0 ∧ j = 0 then 0 else if i = 0 ∧ j = 3 then a else if i = 0 ∧ j = 4 then b else σ.1 i j, σ.2)
theorem flG_d {σ : Sg} {a b i j : Int} : (flG σ a b).1 i j = if i = 0 ∧ j = 0 then 0 else if i = 0 ∧ j = 3 then a else if i = 0 ∧ j = 4 then b else σ.1 i j := rfl
theorem flG_0 {σ : Sg} {a b : Int} : (flG σ a b).1 0 0 = 0 ∧ (flG σ a b).1 0 3 = a ∧ (flG σ a b).1 0 4 = b := by
  refine ⟨?_, ?_, ?_⟩ <;> rw [flG_d]
  · rw [if_pos ⟨rfl, rfl⟩]
  · rw [if_neg (by omega), if_pos ⟨rfl, rfl⟩]
  · rw [if_neg (by omega), if_neg (by omega), if_pos ⟨rfl, rfl⟩]
theorem flG_n {σ : Sg} {a b i j : Int} (h : i ≠ 0 ∨ j ≠ 0 ∧ j ≠ 3 ∧ j ≠ 4) : (flG σ a b).1 i j = σ.1 i j := by
  rw [flG_d, if_neg (by omega), if_neg (by omega), if_neg (by omega)]
theorem flG_r {σ : Sg} {a b i : Int} (h : i ≠ 0) : (flG σ a b).1 i = σ.1 i := funext fun _ => flG_n (Or.inl h)
/-- a new spring on shelf s -/
def spG (σ : Sg) (s : Int) (P : Fn2) : Sg := ((flG σ 0 (-1)).1, (fun j => if (j : Int) = s then P else σ.2.1 j, σ.2.2))
theorem flG_S {σ : Sg} {a b : Int} (hS : SgI σ) : SgI (flG σ a b) := by
  obtain ⟨s1, s2, s3, s4, s5, s6, s7, s8, s9⟩ := hS
  refine ⟨by rw [flG_0.1]; decide, ?_, ?_, ?_, ?_, ?_, s7, fun k k0 k1 => ?_, ?_⟩
  · rw [flG_n (by decide)]; exact s2
  · rw [flG_n (by decide)]; exact s3
  · rw [flG_n (by decide)]; exact s4
  · rw [flG_n (by decide)]; exact s5
  · rw [flG_n (by decide), flG_r (by decide), flG_r (by decide), flG_r (by decide)]; exact s6
  · rw [flG_0.1] at k1; omega
  · rw [flG_n (by decide), flG_r (by decide), flG_r (by decide), flG_r (by decide), flG_r (by decide)]; exact s9
theorem spG_S {σ : Sg} {s : Int} {P : Fn2} (hS : SgI σ) (hP : WFP P) : SgI (spG σ s P) := by
  obtain ⟨s1, s2, s3, s4, s5, s6, s7, s8, s9⟩ := flG_S (a := 0) (b := -1) hS
  refine ⟨s1, s2, s3, s4, s5, s6, fun i hi => ?_, s8, s9⟩
  show WFP (if (i : Int) = s then P else σ.2.1 i)
  split
  · exact hP
  · exact s7 i hi
theorem cs_sp {σ σ' : Sg} {a b : Int} {q q' : Int → Int} {l l' : Int} {F A R F' A' R' : Fn2} (hS' : SgI σ') (hB : CB σ q l F A R) (e1 : σ'.1 = (st2 (flG σ a b).1 0 5 (F' l' 0))) (hRS : RS R') (hq' : SprD q') (hl' : lawD l') (r4 : R' 0 4 = q' 4) (r5 : R' 0 5 = l') (r6 : R' 0 6 = 39 - l')
    (hsp : ∀ i : Nat, i < 4 → R' (189 + 46 * i) 0 = q' i ∧ SpR (q' i) (σ'.2.1 i) F' A') (hL : CLw l' A' σ'.2.2)
    (hF : ∀ a f, a = 66 ∨ a = 184 ∨ a = 0 ∧ (f = 7 ∨ f = 8) → F' a f = F a f) (hA : ∀ a, 67 ≤ a ∧ a ≤ 70 ∨ 185 ≤ a ∧ a ≤ 188 → A' a = A a) (f1 : F' 0 1 = 0) (f8 : F' 2 7 = a) (f9 : F' 2 8 = b) (hC' : CC σ' q' l' F' A' R') (hI' : ShI σ' F') (h373 : ∀ a, 373 ≤ a → A' a = A a ∧ F' a = F a) : CS σ' q' l' F A F' A' R' := by
  obtain ⟨h1, h2, h3, h4, h5, h6, h7, h8, h9, h10, h11, h12, h13, ⟨h14, h15, h16⟩, ⟨h17, h18, h19⟩, h20, h21⟩ := hB
  have z : ∀ i j, i ≠ 0 ∨ j ≠ 5 → σ'.1 i j = (flG σ a b).1 i j := fun i j h => by
    rw [e1]
    by_cases e : i = 0
    · subst e; rw [st2_s, u1_n (by omega)]
    · rw [st2_n e]
  have zr : ∀ i, i ≠ 0 → σ'.1 i = σ.1 i := fun i h => by rw [e1, st2_n h, flG_r h]
  have z0 : ∀ j, j ≠ 0 → j ≠ 3 → j ≠ 4 → j ≠ 5 → σ'.1 0 j = σ.1 0 j := fun j a b c d => by rw [z _ _ (by omega), flG_n (by omega)]
  refine ⟨hS', ⟨hRS, hq', hl', r4, r5, r6, hsp, ?_, fun k k0 k1 => ?_, hL, ?_, ?_, ?_, ⟨?_, ?_, fun i i0 i1 => ?_⟩, ⟨?_, fun i i0 i1 => ?_, ?_⟩, ?_, ?_⟩, hC', hI', h373⟩
  · rw [z _ _ (by decide), flG_0.1]; exact f1
  · rw [z _ _ (by decide), flG_0.1] at k1; omega
  · rw [e1, st2_s, u1_s]
  · rw [z0 _ (by decide) (by decide) (by decide) (by decide), hF _ _ (by omega)]; exact h12
  · rw [z0 _ (by decide) (by decide) (by decide) (by decide), hF _ _ (by omega)]; exact h13
  · rw [z0 _ (by decide) (by decide) (by decide) (by decide), hF _ _ (by omega)]; exact h14
  · rw [z0 _ (by decide) (by decide) (by decide) (by decide), hF _ _ (by omega)]; exact h15
  · rw [z0 _ (by decide) (by decide) (by decide) (by decide)] at i1
    rw [zr _ (by decide), zr _ (by decide), zr _ (by decide), zr _ (by decide), hA _ (by omega), hA _ (by omega), hA _ (by omega), hA _ (by omega)]; exact h16 i i0 i1
  · rw [z0 _ (by decide) (by decide) (by decide) (by decide), hF _ _ (by omega)]; exact h17
  · rw [z0 _ (by decide) (by decide) (by decide) (by decide)] at i1
    rw [zr _ (by decide), zr _ (by decide), zr _ (by decide), hA _ (by omega), hA _ (by omega), hA _ (by omega)]; exact h18 i i0 i1
  · rw [hA _ (by omega)]; exact h19
  · rw [z _ _ (by decide), flG_0.2.1]; exact f8
  · rw [z _ _ (by decide), flG_0.2.2]; exact f9
/-- what a new text leaves alone: the board, the sights, the logs -/
def KB (F A F' A' : Fn2) : Prop := ∀ a, 66 ≤ a → a ≤ 188 → F' a = F a ∧ A' a = A a
theorem SpI.pr {q : Int} {S : Sp} {F A : Fn2} (h : SpI q S F A) (hW : WfS S) : ∃ P : Fn2, SpR q P F A ∧ PEq P S.1 ∧ WFP P := by
  obtain ⟨h1, h2, h3, h4⟩ := h
  have z : ∀ i r, i ≠ 0 → (fun i r => if i = 0 then F q r else A (q + i) r : Fn2) i r = A (q + i) r := fun i r h => if_neg h
  refine ⟨fun i r => if i = 0 then F q r else A (q + i) r, ⟨fun i a b => funext fun r => (z i r (by omega)).symm, rfl, rfl⟩, ⟨h1, h2, fun r r0 r1 => ?_, fun j j0 j1 => ?_⟩, ?_⟩
  · have r1' : r < S.1 0 0 := by rw [← h1]; exact r1
    have w := (h3 r r0 r1').1
    exact ⟨w 1 (by decide) (by decide) (by decide), w 3 (by decide) (by decide) (by decide), w 4 (by decide) (by decide) (by decide), w 5 (by decide) (by decide) (by decide), w 6 (by decide) (by decide) (by decide), w 7 (by decide) (by decide) (by decide), Or.inl (w 8 (by decide) (by decide) (by decide))⟩
  · have j1' : j < S.1 0 1 := by rw [← h2]; exact j1
    have w := h4 j j0 j1'
    exact ⟨w 9 (by decide) (by decide), w 10 (by decide) (by decide), w 11 (by decide) (by decide)⟩
  · obtain ⟨a, b, c⟩ := hW.1
    refine ⟨?_, fun r r0 r1 => ?_, fun j j0 j1 => ?_⟩
    · show 0 ≤ F q 0 ∧ F q 0 ≤ 8 ∧ 0 ≤ F q 1 ∧ F q 1 ≤ 4
      rw [h1, h2]; exact a
    · have r1' : r < S.1 0 0 := by rw [← h1]; exact r1
      have w := (h3 r r0 r1').1
      show 1 ≤ A (q + 4) r ∧ A (q + 4) r ≤ 99 ∧ 0 ≤ A (q + 6) r ∧ A (q + 6) r ≤ 999 ∧ 0 ≤ A (q + 7) r ∧ A (q + 7) r ≤ 30 ∧ -2 ≤ A (q + 8) r ∧ A (q + 8) r < r ∧ 0 ≤ A (q + 5) r ∧ A (q + 5) r ≤ 30 ∧ 0 ≤ A (q + 3) r ∧ A (q + 3) r ≤ 60
      rw [w 3 (by decide) (by decide) (by decide), w 4 (by decide) (by decide) (by decide), w 5 (by decide) (by decide) (by decide), w 6 (by decide) (by decide) (by decide), w 7 (by decide) (by decide) (by decide), w 8 (by decide) (by decide) (by decide)]
      exact b r r0 r1'
    · have j1' : j < S.1 0 1 := by rw [← h2]; exact j1
      have w := h4 j j0 j1'
      show 0 ≤ A (q + 9) j ∧ A (q + 9) j < F q 0 ∧ 0 ≤ A (q + 10) j ∧ A (q + 10) j < F q 0 ∧ A (q + 9) j ≠ A (q + 10) j ∧ 0 ≤ A (q + 11) j ∧ A (q + 11) j ≤ 30
      rw [w 9 (by decide) (by decide), w 10 (by decide) (by decide), w 11 (by decide) (by decide), h1]
      exact c j j0 j1'
/-- the text is begun -/
theorem c_begin {X : Int × (Int → Int)} {k : Nat} {Q : Vv → Fn2 → Fn2 → Fn2 → Prop} {F A R : Fn2} {σ : Sg} {q : Int → Int} {l : Int} (hS : SgI σ) (hB : CB σ q l F A R) (hq : ∀ F' R', RS R' → TxC (σ.1 1) (σ.1 0 0) A R' → TkC (σ.1 1) (σ.1 0 0) 0 F' → (∀ a f, a ≠ 2 → F' a f = F a f) → (∀ a f, a ≠ 2 ∨ f ≠ 0 → R' a f = R a f) → Q vN F' A R') : Wp X (k + 7) m_X8_begin [vA 2, vA 1, vI (F 0 1)] F A R Q := by
  obtain ⟨h1, h2, h3, h4, h5, h6, h7, h8, h9, hr⟩ := id hB
  have s1 := hS.1
  have s8 := hS.2.2.2.2.2.2.2.1
  rw [h8]
  refine Wp.of [vA 2, vA 1, vI (σ.1 0 0)] rfl rfl rfl (b_X8_begin_0 h1 (by decide +kernel) (show Y1.2.1 1 = 900 by decide +kernel) fun R1 hR1 hRS F2 hF2 F3 hF3 F4 hF4 F5 hF5 => ?_)
  have x2 := st2c hF2
  have x3 := st2c hF3
  have x4 := st2c hF4
  have x5 := st2c hF5
  have hx : ∀ a f, a ≠ 2 → F5 a f = F a f := fun a f h => by rw [x5 a f (by omega), x4 a f (by omega), x3 a f (by omega), x2 a f (by omega)]
  have ht : TxC (σ.1 1) (σ.1 0 0) A R1 := ⟨hRS, by rw [hR1, st2_s, u1_s], by omega, fun i a b => ⟨h9 i a b, (s8 i a b).1, (s8 i a b).2⟩⟩
  refine c_next (k := k) ht (Int.le_refl 0) s1.1 ?_ ?_ ?_ ?_ (fun F' g1 g2 => b_X8_begin_34 (by decide +kernel) (show Y1.2.1 1 = 900 by decide +kernel) (hq F' R1 hRS ht g1 (fun a f h => by rw [g2 a f (by omega)]; exact hx a f h) (fun a f h => ?_)))
  · rw [x5 2 1 (by omega), x4 2 1 (by omega), x3 2 1 (by omega), hF2, st2_s, u1_s]; omega
  · rw [x5 2 2 (by omega), x4 2 2 (by omega), hF3, st2_s, u1_s]
  · rw [x5 2 7 (by omega), hF4, st2_s, u1_s]
  · rw [hF5, st2_s, u1_s]
  · rw [hR1]
    by_cases e : a = 2
    · subst e; rw [st2_s, u1_n (by omega)]
    · rw [st2_n e]
theorem c_spring {X : Int × (Int → Int)} {k : Nat} {Q : Vv → Fn2 → Fn2 → Fn2 → Prop} {F A R : Fn2} {σ : Sg} {q : Int → Int} {l s : Int} (hS : SgI σ) (hB : CB σ q l F A R) (hC : CC σ q l F A R)
    (hq : ∀ F' A' R' q' S P, 0 ≤ s → s < 4 → rdS (σ.1 1) (σ.1 0 0) = okS S → PEq P S.1 → CS (spG σ s P) q' l F A F' A' R' → KB F A F' A' → Q (vI (S.1 0 0)) F' A' R')
    (hq0 : ∀ F' A' R' a b, 0 ≤ s → s < 4 → rdS (σ.1 1) (σ.1 0 0) = flS a b → 0 < a → CS (flG σ a b) q l F A F' A' R' → KB F A F' A' → Q (vI (-1)) F' A' R') (hq2 : ¬ (0 ≤ s ∧ s < 4) → Q (vI (-2)) F A R) (hI : ShI σ F) : Wp X (k + 12) m_X10_spring [vA 0, vI s] F A R Q := by
  obtain ⟨h1, h2, h3, h4, h5, h6, h7, h8, h9, h10, h11, hr⟩ := id hB
  have s1 := hS.1
  refine Wp.of [vA 0, vI s, vN, vN] rfl rfl rfl (b_X10_spring_0 (w_isShelf (k := k + 10) (fun s0 s4 => b_X10_spring_4 h1 ⟨fun _ => ?_, fun h => absurd h (by decide)⟩) (fun hn => b_X10_spring_4 h1 ⟨fun h => absurd rfl h, fun _ => hq2 hn⟩)))
  refine c_begin (k := k + 4) hS hB (fun F1 R1 hR1 ht hk hF1 hRR => ?_)
  have q4 := h2.1 4 (by decide) (by decide)
  have q4' := q4
  unfold inQ at q4'
  have e04 : R1 0 4 = q 4 := by rw [hRR 0 4 (by omega)]; exact h4
  refine b_X10_spring_25 hR1 e04 (inQ_at q4) (fun F2 hF2 => ?_)
  have x2 := st0 hF2
  have k2 : TkC (σ.1 1) (σ.1 0 0) 0 F2 := by
    have e2 : F2 2 = F1 2 := by rw [hF2, st2_n (by decide)]
    unfold TkC
    rw [e2]
    exact hk
  have hsn : s = ((s.toNat : Nat) : Int) := by omega
  have hsl : s.toNat < 4 := by omega
  have qs := h2.1 s s0 (by omega)
  have es : R1 (189 + 46 * s) 0 = q s := by
    rw [hRR _ _ (by omega), hsn]; exact (h7 s.toNat hsl).1
  -- springs that stand
  have hSp : ∀ (i : Nat) (F3 A3 : Fn2), i < 4 → FQ (q 4) F2 A F3 A3 → SpR (q i) (σ.2.1 i) F3 A3 := fun i F3 A3 hi x => by
    obtain ⟨c1, c2, c3, c4⟩ := h7 i hi
    have hd := h2.2 i 4 (by omega) (by omega) (by decide)
    have qi := h2.1 i (by omega) (by omega)
    unfold inQ at qi
    refine ⟨fun j a b => ?_, ?_, ?_⟩
    · rw [x.2 _ (by omega)]; exact c2 j a b
    · rw [x.1 _ _ hd (by omega), x2 _ _ (by omega), hF1 _ _ (by omega)]; exact c3
    · rw [x.1 _ _ hd (by omega), x2 _ _ (by omega), hF1 _ _ (by omega)]; exact c4
  have hG : ∀ (F3 A3 : Fn2), FQ (q 4) F2 A F3 A3 → (∀ a f, a ≠ 2 → a ≠ q 4 → a ≠ 0 ∨ f ≠ 1 → F3 a f = F a f) ∧ F3 0 1 = 0 ∧ ∀ a, a < q 4 + 1 ∨ q 4 + 11 < a → A3 a = A a := fun F3 A3 x => by
    refine ⟨fun a f a2 a4 h => ?_, ?_, x.2⟩
    · rw [x.1 _ _ a4 (by omega), x2 _ _ (by omega), hF1 _ _ a2]
    · rw [x.1 _ _ (by omega) (by omega), hF2, st2_s, u1_s]
  refine c_rdS (k := k) ht s1.1 k2 q4 (fun F3 A3 S e1 i1 w1 f1 z8 z9 => ?_) (fun F3 A3 e1 e2 f1 => ?_)
  · obtain ⟨g1, g2, g3⟩ := hG F3 A3 f1
    refine b_X10_spring_41 hR1 es (inQ_at qs) e04 (inQ_at q4) ⟨fun _ => ⟨s0, s4, fun R2 hR2 hRS2 R3 hR3 hRS3 => ?_⟩, fun h => absurd h (by decide)⟩
    have o1 : At_Course (189 + 46 * s) := by unfold At_Course; omega
    refine Wp.of (k := k + 10) [vA (189 + 46 * s)] rfl rfl rfl (b_X1_forget_0 o1 fun F4 hF4 => ?_)
    have e3 : R3 (189 + 46 * s) 0 = q 4 := by rw [hR3, st2_n (by omega), hR2, st2_s, u1_s]
    refine b_X10_spring_75 o1 (inQ_at qs) e3 (inQ_at q4) (fun F5 hF5 => ?_)
    have x5 := st0 hF5
    have x4 : ∀ a f, a ≠ 189 + 46 * s ∨ f ≠ 8 → F4 a f = F3 a f := fun a f h => by
      rw [hF4]
      by_cases e : a = 189 + 46 * s
      · subst e; rw [st2_s, u1_n (by omega)]
      · rw [st2_n e]
    obtain ⟨P, p1, p2, p3⟩ := i1.pr w1
    have er : F5 (q 4) 0 = S.1 0 0 := by rw [x5 _ _ (by omega), x4 _ _ (by omega)]; exact i1.1
    rw [er]
    have hRo : ∀ a f, a ≠ 2 → a ≠ 189 + 46 * s ∨ f ≠ 0 → a ≠ 0 ∨ f ≠ 4 → R3 a f = R a f := fun a f a2 h h' => by
      have y3 : R3 a f = R2 a f := by
        rw [hR3]
        by_cases e : a = 0
        · subst e; rw [st2_s, u1_n (by omega)]
        · rw [st2_n e]
      have y2 : R2 a f = R1 a f := by
        rw [hR2]
        by_cases e : a = 189 + 46 * s
        · subst e; rw [st2_s, u1_n (by omega)]
        · rw [st2_n e]
      rw [y3, y2, hRR _ _ (by omega)]
    have hlD := h3
    unfold lawD at hlD
    refine hq F5 A3 R3 (fun i => if i = s then q 4 else if i = 4 then q s else q i) S P s0 s4 e1 p2 ?_ (fun a a0 a1 => ⟨funext fun f => by rw [x5 _ _ (by omega), x4 _ _ (by omega), g1 _ _ (by omega) (by omega) (by omega)], g3 a (by omega)⟩)
    refine cs_sp (a := 0) (b := -1) (spG_S hS p3) hB ?_ hRS3 ⟨fun i i0 i4 => ?_, fun i j i0 ij j4 => ?_⟩ h3 ?_ ?_ ?_ (fun i hi => ⟨?_, ?_⟩) ?_ (fun a f h => ?_) (fun a h => g3 a (by omega)) ?_ ?_ ?_ (fun i hi => ?_) (Or.inl ?_) (fun a h => ⟨g3 a (by omega), funext fun f => by rw [x5 _ _ (by omega), x4 _ _ (by omega), g1 _ _ (by omega) (by omega) (by omega)]⟩)
    · show (flG σ 0 (-1)).1 = _
      have : F5 l 0 = σ.1 0 5 := by rw [x5 _ _ (by omega), x4 _ _ (by omega), g1 _ _ (by omega) (by omega) (by omega)]; exact h11
      rw [this]
      funext i j
      by_cases e : i = 0
      · subst e
        rw [st2_s]
        by_cases e5 : j = 5
        · subst e5; rw [u1_s, flG_n (by decide)]
        · rw [u1_n e5]
      · rw [st2_n e]
    · show inQ (if i = s then q 4 else if i = 4 then q s else q i)
      split
      · exact q4
      · split
        · exact qs
        · exact h2.1 i i0 i4
    · show (if i = s then q 4 else if i = 4 then q s else q i) ≠ (if j = s then q 4 else if j = 4 then q s else q j)
      by_cases es' : i = s
      · subst es'
        rw [if_pos rfl, if_neg (by omega)]
        split
        · exact (h2.2 i 4 (by omega) (by omega) (by omega)).symm
        · exact (h2.2 j 4 (by omega) (by omega) (by omega)).symm
      · rw [if_neg es', if_neg (show ¬ i = 4 by omega)]
        by_cases js : j = s
        · subst js; rw [if_pos rfl]; exact h2.2 i 4 (by omega) (by omega) (by omega)
        · rw [if_neg js]
          split
          · rcases Int.lt_or_gt_of_ne es' with h | h
            · exact h2.2 i s i0 h (by omega)
            · exact (h2.2 s i s0 h (by omega)).symm
          · exact h2.2 i j i0 ij j4
    · show R3 0 4 = if (4 : Int) = s then q 4 else if (4 : Int) = 4 then q s else q 4
      rw [if_neg (by omega), if_pos rfl, hR3, st2_s, u1_s]
    · rw [hRo _ _ (by omega) (by omega) (by omega)]; exact h5
    · rw [hRo _ _ (by omega) (by omega) (by omega)]; exact h6
    · show _ = if (i : Int) = s then q 4 else if (i : Int) = 4 then q s else q i
      by_cases e : (i : Int) = s
      · rw [if_pos e, e]; exact e3
      · rw [if_neg e, if_neg (by omega), hRo _ _ (by omega) (by omega) (by omega)]; exact (h7 i hi).1
    · show SpR (if (i : Int) = s then q 4 else if (i : Int) = 4 then q s else q i) (if (i : Int) = s then P else σ.2.1 i) F5 A3
      by_cases e : (i : Int) = s
      · rw [if_pos e, if_pos e]
        obtain ⟨p4, p5, p6⟩ := p1
        exact ⟨p4, by rw [x5 _ _ (by omega), x4 _ _ (by omega)]; exact p5, by rw [x5 _ _ (by omega), x4 _ _ (by omega)]; exact p6⟩
      · rw [if_neg e, if_neg (by omega), if_neg e]
        obtain ⟨p4, p5, p6⟩ := hSp i F3 A3 hi f1
        have qi := h2.1 i (by omega) (by omega)
        unfold inQ at qi
        exact ⟨p4, by rw [x5 _ _ (by omega), x4 _ _ (by omega)]; exact p5, by rw [x5 _ _ (by omega), x4 _ _ (by omega)]; exact p6⟩
    · show CLw l A3 σ.2.2
      exact h10.of (g3 _ (by omega)) (g3 _ (by omega)) (g3 _ (by omega))
    · rw [x5 _ _ (by omega), x4 _ _ (by omega), g1 _ _ (by omega) (by omega) (by omega)]
    · rw [x5 _ _ (by omega), x4 _ _ (by omega)]; exact g2
    · rw [x5 _ _ (by omega), x4 _ _ (by omega)]; exact z8
    · rw [x5 _ _ (by omega), x4 _ _ (by omega)]; exact z9
    · show CrsI (crs i) (if (i : Int) = s then q 4 else if (i : Int) = 4 then q s else q i) l ((flG σ 0 (-1)).1 0 1) (if (i : Int) = s then P else σ.2.1 i) σ.2.2 F5 A3 R3
      rw [flG_n (by decide)]
      by_cases e : (i : Int) = s
      · refine Or.inl ?_
        unfold crs
        rw [x5 _ _ (by omega), hF4, e, st2_s, u1_s]
      · rw [if_neg e, if_neg (by omega), if_neg e]
        have := hC i hi
        unfold crs at this ⊢
        exact this.of (fun a a0 a1 => g3 a (by omega)) (by rw [x5 _ _ (by omega), x4 _ _ (by omega), g1 _ _ (by omega) (by omega) (by omega)]) (fun f => by rw [x5 _ _ (by omega), x4 _ _ (by omega), g1 _ _ (by omega) (by omega) (by omega)]) (fun f => hRo _ _ (by omega) (by omega) (by omega))
    · rw [hF5, st2_s, u1_s]
  · obtain ⟨g1, g2, g3⟩ := hG F3 A3 f1
    refine b_X10_spring_41 hR1 es (inQ_at qs) e04 (inQ_at q4) ⟨fun h => absurd rfl h, fun _ => ?_⟩
    have hlD := h3
    unfold lawD at hlD
    refine hq0 F3 A3 R1 _ _ s0 s4 e1 e2 ?_ (fun a a0 a1 => ⟨funext fun f => g1 _ _ (by omega) (by omega) (by omega), g3 a (by omega)⟩)
    have hRo : ∀ a f, a ≠ 2 → R1 a f = R a f := fun a f h => hRR a f (by omega)
    refine cs_sp (a := F3 2 7) (b := F3 2 8) (flG_S hS) hB ?_ hR1 h2 h3 e04 (by rw [hRo _ _ (by decide)]; exact h5) (by rw [hRo _ _ (by decide)]; exact h6) (fun i hi => ⟨by rw [hRo _ _ (by omega)]; exact (h7 i hi).1, hSp i F3 A3 hi f1⟩) ?_ (fun a f h => g1 _ _ (by omega) (by omega) (by omega)) (fun a h => g3 a (by omega)) g2 rfl rfl (fun i hi => ?_) ?_ (fun a h => ⟨g3 a (by omega), funext fun f => g1 _ _ (by omega) (by omega) (by omega)⟩)
    · have : F3 l 0 = σ.1 0 5 := by rw [g1 _ _ (by omega) (by omega) (by omega)]; exact h11
      rw [this]
      funext i j
      by_cases e : i = 0
      · subst e
        rw [st2_s]
        by_cases e5 : j = 5
        · subst e5; rw [u1_s, flG_n (by decide)]
        · rw [u1_n e5]
      · rw [st2_n e]
    · exact h10.of (g3 _ (by omega)) (g3 _ (by omega)) (g3 _ (by omega))
    · show CrsI (crs i) (q i) l ((flG σ (F3 2 7) (F3 2 8)).1 0 1) (σ.2.1 i) σ.2.2 F3 A3 R1
      rw [flG_n (by decide)]
      have := hC i hi
      unfold crs at this ⊢
      exact this.of (fun a a0 a1 => g3 a (by omega)) (g1 _ _ (by omega) (by omega) (by omega)) (fun f => g1 _ _ (by omega) (by omega) (by omega)) (fun f => hRo _ _ (by omega))
    · exact hI.of (fun f f0 f1 => g1 _ _ (by omega) (by omega) (by omega)) rfl (flG_n (by decide)) (flG_n (by decide)) (flG_n (by decide)) (flG_r (by decide)) (flG_r (by decide)) (flG_r (by decide))
