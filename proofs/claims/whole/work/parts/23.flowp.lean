/-! THE CLASS'S SECOND, on: what is above, cool, spout, pools, the whole -/
theorem c_weighL {X : Int × (Int → Int)} {k : Nat} {Q : Vv → Fn2 → Fn2 → Fn2 → Prop} {R : Fn2} {o q l t a g K c : Int} {P : Fn2} {C : Nat → Option (List Int)} (hR : RS R) (ho : At_Flow o) (hP : WFP P) {s : Fn2} (hI : Iv P K t c a g s) : ∀ (m : Nat) (j : Int) (F A : Fn2) (w2 : Vv), FE o q l P C F A R → FS o s F A → 0 ≤ j → j + m = P 0 0 → (∀ r, 0 ≤ r → r < j → A (o + 22) r = abv (P 8) (s 0) 8 r) → (∀ A', FS o s F A' → FX o l F A F A' → (∀ r, 0 ≤ r → r < P 0 0 → A' (o + 22) r = abv (P 8) (s 0) 8 r) → Q vN F A' R) → G X k m_X2_weighAbove Q 2 [vA o, vI j, w2] [] F A R
  | 0, j, F, A, w2, hE, hs, hj, hm, hab, hq => by
    refine b_X2_weighAbove_2 hR ho hE.1 hE.2.1 ⟨fun _ => hq A hs FX.refl (fun r a b => hab r a (by omega)), fun hx => ?_⟩
    rw [hE.2.2.2.2.1.2.1] at hx; omega
  | m + 1, j, F, A, w2, hE, hs, hj, hm, hab, hq => by
    have hrr := hP.1
    have hjr : j < P 0 0 := by omega
    have hS := hE.2.2.2.2.1
    have d1 := dj_SF hE.2.1 ho
    obtain ⟨p1, p2, p3, p4, p5, p6, p7, p8, -⟩ := hP.2.1 j hj hjr
    have hu : ∀ r, 0 ≤ r → r < P 0 0 → P 8 r < r := fun r a b => (hP.2.1 r a b).2.2.2.2.2.2.2.1
    have hW : ∀ r, 0 ≤ r → r < P 0 0 → 0 ≤ s 0 r ∧ s 0 r ≤ 99 := fun r a b => by
      have h1 := hI.1.1 r a (by omega)
      have h2 := hP.2.1 r a b
      have := h1.2.2.1 b
      omega
    have hs' := hs
    obtain ⟨e0, e1, e2, e3, f5⟩ := hs'
    have nx : ∀ v w, v = abv (P 8) (s 0) 8 j → G X k m_X2_weighAbove Q 2 [vA o, vI (j + 1), w] [] F (st2 A (o + 22) j v) R := by
      intro v w hv
      have x5 : FX o l F A F (st2 A (o + 22) j v) := FX.refl.a (by omega) (by omega)
      refine c_weighL hR ho hP hI m (j + 1) F _ w (hE.fx ho x5) ?_ (by omega) (by omega) (fun r z0 z1 => ?_) fun A' y1 y2 y3 => hq A' y1 (x5.trans y2) y3
      · refine ⟨?_, ?_, ?_, ?_, f5⟩ <;> simp only [ne_eq, Int.add_right_inj, Int.reduceEq, not_false_eq_true, st2_n, st2_s, u1_s, u1_u1] <;> assumption
      · rw [st2_s]
        by_cases e : r = j
        · subst e; rw [u1_s]; exact hv
        · rw [u1_n e]; exact hab r z0 (by omega)
    refine b_X2_weighAbove_2 hR ho hE.1 hE.2.1 ⟨fun hx => ?_, fun _ => ⟨hj, by omega, fun g1 hg1 => ⟨fun hz => ?_, fun hz => ?_⟩⟩⟩
    · rw [hS.2.1] at hx; omega
    · rw [hS.1 8 (by omega) (by omega)] at hg1
      rw [e0, hab g1 (by omega) (by omega)]
      have b1 := hW g1 (by omega) (by omega)
      have b2 := abv_0 hu hW 8 g1 (by omega) (by omega)
      refine ⟨by omega, by omega, by omega, fun A2 hA2 => ⟨by omega, ?_⟩⟩
      subst hA2
      refine nx _ _ ?_
      rw [show abv (P 8) (s 0) 8 j = abq (P 8) (s 0) 7 (P 8 j) from rfl]
      unfold abq
      rw [← hg1, if_neg hz, abv_st hu 8 7 g1 (by omega) (by omega) (by omega) (by omega)]
    · rw [hS.1 8 (by omega) (by omega)] at hg1
      intro A3 hA3
      refine ⟨by omega, ?_⟩
      subst hA3
      refine nx _ _ ?_
      rw [show abv (P 8) (s 0) 8 j = abq (P 8) (s 0) 7 (P 8 j) from rfl]
      unfold abq
      rw [← hg1, if_pos hz]
theorem c_weigh {X : Int × (Int → Int)} {k : Nat} {Q : Vv → Fn2 → Fn2 → Fn2 → Prop} {F A R : Fn2} {o q l t a g K c : Int} {P s : Fn2} {C : Nat → Option (List Int)} (hR : RS R) (ho : At_Flow o) (hP : WFP P) (hI : Iv P K t c a g s) (hE : FE o q l P C F A R) (hs : FS o s F A) (hq : ∀ A', FS o s F A' → FX o l F A F A' → (∀ r, 0 ≤ r → r < P 0 0 → A' (o + 22) r = abv (P 8) (s 0) 8 r) → Q vN F A' R) : Wp X (k + 1) m_X2_weighAbove [vA o] F A R Q :=
  Wp.of [vA o, vN, vN] rfl rfl rfl (b_X2_weighAbove_0 ho (c_weighL hR ho hP hI (rms P) 0 F A vN hE hs (by omega) (by rw [rms_e hP]; omega) (fun r a b => by omega) hq))
theorem FS.up {o l : Int} {s F A R : Fn2} {S : Int → Int} (h : FS o s F A) (hl : At_Laws l) (ho : At_Flow o) : FS o s F (up2 A (l + 4) S) := by
  have d := dj_LF hl ho
  obtain ⟨e0, e1, e2, e3, f5⟩ := h
  refine ⟨?_, ?_, ?_, ?_, f5⟩ <;> rw [up2_n (by omega)] <;> assumption
theorem SC.up {o l : Int} {A A1 : Fn2} {S : Int → Int} (h : SC o A A1) (hl : At_Laws l) (ho : At_Flow o) : SC o A (up2 A1 (l + 4) S) := by
  have d := dj_LF hl ho
  intro c h1 h2
  rw [up2_n (by omega)]; exact h c h1 h2
theorem FS.sc {o c i v : Int} {s F A : Fn2} (h : FS o s F A) (h1 : 22 ≤ c) : FS o s F (st2 A (o + c) i v) := by
  obtain ⟨e0, e1, e2, e3, f5⟩ := h
  refine ⟨?_, ?_, ?_, ?_, f5⟩ <;> rw [st2_n (by omega)] <;> assumption
theorem c_coolL {X : Int × (Int → Int)} {k : Nat} {Q : Vv → Fn2 → Fn2 → Fn2 → Prop} {R : Fn2} {o q l t a g K c : Int} {P : Fn2} {C : Nat → Option (List Int)} (hR : RS R) (ho : At_Flow o) (hP : WFP P) {s : Fn2} (hI : Iv P K t c a g s) : ∀ (m : Nat) (j : Int) (F A : Fn2) (w2 : Vv), FE o q l P C F A R → FS o s F A → 0 ≤ j → j + m = P 0 0 → (∀ r, 0 ≤ r → r < P 0 0 → A (o + 22) r = abv (P 8) (s 0) 8 r) → (∀ r, 0 ≤ r → r < j → A (o + 25) r = lwAt (LwF C 2) P s r) → (∀ A', FS o s F A' → FX o l F A F A' → (∀ r, 0 ≤ r → r < P 0 0 → A' (o + 25) r = lwAt (LwF C 2) P s r) → Q vN F A' R) → G X (k + 3) m_X2_askCool Q 6 [vA o, vI j, w2] [] F A R
  | 0, j, F, A, w2, hE, hs, hj, hm, hab, hco, hq => by
    refine b_X2_askCool_6 hR ho hE.1 hE.2.1 ⟨fun _ => hq A hs FX.refl (fun r a b => hco r a (by omega)), fun hx => ?_⟩
    rw [hE.2.2.2.2.1.2.1] at hx; omega
  | m + 1, j, F, A, w2, hE, hs, hj, hm, hab, hco, hq => by
    have hrr := hP.1
    have hjr : j < P 0 0 := by omega
    have hS := hE.2.2.2.2.1
    have d1 := dj_SF hE.2.1 ho
    have d2 := dj_LF hE.2.2.2.1 ho
    have hs' := hs
    obtain ⟨e0, e1, e2, e3, f5⟩ := hs'
    obtain ⟨a1, a2, a3, a4⟩ := hI.1.1 j hj (by omega)
    refine b_X2_askCool_6 hR ho hE.1 hE.2.1 ⟨fun hx => ?_, fun _ => ⟨hj, by omega, ?_⟩⟩
    · rw [hS.2.1] at hx; omega
    rw [e0, e1]
    refine w_warm (k := k + 2) a2 ?_
    refine b_X2_askCool_32 hR ho hE.2.2.1 hE.2.2.2.1 hE.1 hE.2.1 ⟨hj, by omega, ?_⟩
    rw [hS.1 3 (by omega) (by omega), hab j hj hjr, e0]
    refine w_cool (k := k) hR hE.2.2.2.1 hE.2.2.2.2.2 fun S' => ?_
    refine b_X2_askCool_67 ho (la_Flow_10 ho) (ln_Flow_10 ho) ⟨hj, by omega, fun A1 hA1 => ⟨by omega, ?_⟩⟩
    have x5 : FX o l F A F A1 := by rw [hA1]; exact FX.refl.s.a (by omega) (by omega)
    refine c_coolL hR ho hP hI m (j + 1) F A1 _ (hE.fx ho x5) ?_ (by omega) (by omega) (fun r z0 z1 => ?_) (fun r z0 z1 => ?_) fun A' y1 y2 y3 => hq A' y1 (x5.trans y2) y3
    · rw [hA1]; exact (hs.up (R := R) hE.2.2.2.1 ho).sc (by omega)
    · rw [hA1, st2_n (by omega), up2_n (by omega)]; exact hab r z0 z1
    · rw [hA1, st2_s, up2_n (by omega)]
      by_cases e : r = j
      · subst e; rw [u1_s]; rfl
      · rw [u1_n e]; exact hco r z0 (by omega)
theorem c_cool {X : Int × (Int → Int)} {k : Nat} {Q : Vv → Fn2 → Fn2 → Fn2 → Prop} {F A R : Fn2} {o q l t a g K c : Int} {P s : Fn2} {C : Nat → Option (List Int)} (hR : RS R) (ho : At_Flow o) (hP : WFP P) (hI : Iv P K t c a g s) (hE : FE o q l P C F A R) (hs : FS o s F A) (hq : ∀ A', FS o s F A' → FX o l F A F A' → (∀ r, 0 ≤ r → r < P 0 0 → A' (o + 25) r = lwAt (LwF C 2) P s r) → Q vN F A' R) : Wp X (k + 4) m_X2_askCool [vA o] F A R Q := by
  refine Wp.of [vA o, vN, vN] rfl rfl rfl (b_X2_askCool_0 ho (c_weigh (k := k + 2) hR ho hP hI hE hs fun A' y1 y2 y3 => ?_))
  exact b_X2_askCool_4 ho (c_coolL hR ho hP hI (rms P) 0 F A' vN (hE.fx ho y2) y1 (by omega) (by rw [rms_e hP]; omega) y3 (fun r a b => by omega) fun A'' z1 z2 z3 => hq A'' z1 (y2.trans z2) z3)
/-- the three rows that the spouting works with -/
def SpRows (o : Int) (P s : Fn2) (C : Nat → Option (List Int)) (n : Int) (A : Fn2) : Prop := ∀ r, 0 ≤ r → r < n → A (o + 23) r = lwAt (LwF C 0) P s r ∧ A (o + 24) r = lwAt (LwF C 1) P s r ∧ A (o + 26) r = stmR P (lwAt (LwF C 0) P s) s r
theorem c_spoutL {X : Int × (Int → Int)} {k : Nat} {Q : Vv → Fn2 → Fn2 → Fn2 → Prop} {R : Fn2} {o q l t a g K c : Int} {P : Fn2} {C : Nat → Option (List Int)} (hR : RS R) (ho : At_Flow o) (hP : WFP P) {s : Fn2} (hI : Iv P K t c a g s) (hK : K ≤ 41000000) : ∀ (m : Nat) (j : Int) (F A : Fn2) (w3 w4 : Vv), FE o q l P C F A R → FS o s F A → 0 ≤ j → j + m = P 0 0 → (∀ r, 0 ≤ r → r < P 0 0 → A (o + 22) r = abv (P 8) (s 0) 8 r) → SpRows o P s C j A → (∀ A' w3 w4, FS o s F A' → FX o l F A F A' → SpRows o P s C (P 0 0) A' → G X (k + 3) m_X2_spout Q 161 [vA o, vI (P 0 0), vI (P 0 0 - 1), w3, w4] [] F A' R) → G X (k + 3) m_X2_spout Q 14 [vA o, vI (P 0 0), vI j, w3, w4] [] F A R
  | 0, j, F, A, w3, w4, hE, hs, hj, hm, hab, hco, hq => by
    refine b_X2_spout_14 hR ho ⟨fun _ => ⟨by have := hP.1; omega, fun g1 hg1 => ?_⟩, fun hx => by omega⟩
    subst hg1
    exact hq A w3 w4 hs FX.refl (fun r a b => hco r a (by omega))
  | m + 1, j, F, A, w3, w4, hE, hs, hj, hm, hab, hco, hq => by
    have hrr := hP.1
    have hjr : j < P 0 0 := by omega
    have hS := hE.2.2.2.2.1
    have d1 := dj_SF hE.2.1 ho
    have d2 := dj_LF hE.2.2.2.1 ho
    have d3 := dj_SL hE.2.1 hE.2.2.2.1
    have hs' := hs
    obtain ⟨e0, e1, e2, e3, f5⟩ := hs'
    obtain ⟨a1, a2, a3, a4⟩ := hI.1.1 j hj (by omega)
    have p2 := (hP.2.1 j hj hjr).2.1
    have a3 := a3 hjr
    have hot := hI.hot hP hj (show j < 8 by omega)
    have hu : ∀ r, 0 ≤ r → r < P 0 0 → P 8 r < r := fun r a b => (hP.2.1 r a b).2.2.2.2.2.2.2.1
    have hW : ∀ r, 0 ≤ r → r < P 0 0 → 0 ≤ s 0 r ∧ s 0 r ≤ 99 := fun r a b => by
      have h1 := hI.1.1 r a (by omega)
      have h2 := hP.2.1 r a b
      have := h1.2.2.1 b
      omega
    have hb := abv_0 hu hW 8 j hjr hj
    refine b_X2_spout_14 hR ho ⟨fun hx => by omega, fun _ => ⟨hj, by omega, ?_⟩⟩
    rw [e0, e1]
    refine w_warm (k := k + 2) a2 ?_
    refine b_X2_spout_34 hR ho hE.2.2.1 hE.2.2.2.1 hE.1 hE.2.1 ⟨hj, by omega, ?_⟩
    rw [hS.1 3 (by omega) (by omega), hab j hj hjr, e0]
    refine w_boil (k := k) hR hE.2.2.2.1 hE.2.2.2.2.2 (by omega) (by omega) fun S' => ?_
    refine b_X2_spout_69 hR ho (la_Flow_8 ho) (ln_Flow_8 ho) hE.2.2.1 hE.2.2.2.1 hE.1 hE.2.1 ⟨hj, by omega, fun A1 hA1 => ⟨hj, by omega, ?_⟩⟩
    have x1 : FX o l F A F A1 := by rw [hA1]; exact FX.refl.s.a (by omega) (by omega)
    have hE1 := hE.fx ho x1
    have hs1 : FS o s F A1 := by rw [hA1]; exact (hs.up (R := R) hE.2.2.2.1 ho).sc (by omega)
    have r22 : A1 (o + 22) = A (o + 22) := by rw [hA1, st2_n (by omega), up2_n (by omega)]
    rw [hE1.2.2.2.2.1.1 3 (by omega) (by omega), r22, hab j hj hjr, hs1.1]
    refine w_lift (k := k) hR hE.2.2.2.1 hE1.2.2.2.2.2 fun S2 => ?_
    refine b_X2_spout_104 hR ho (la_Flow_9 ho) (ln_Flow_9 ho) ⟨hj, by omega, fun A2 hA2 => ?_⟩
    have x2 : FX o l F A F A2 := by rw [hA2]; exact x1.s.a (by omega) (by omega)
    have hs2 : FS o s F A2 := by rw [hA2]; exact (hs1.up (R := R) hE.2.2.2.1 ho).sc (by omega)
    have r23 : A2 (o + 23) j = lwAt (LwF C 0) P s j := by
      rw [hA2, st2_n (by omega), up2_n (by omega), hA1, st2_s, u1_s]; rfl
    rw [r23, hs2.1, hs2.2.1]
    have hB := (LwF_ok (C := C) (P 3 j) (abv (P 8) (s 0) 8 j) (s 0 j) (wmf (s 0 j) (s 1 j)))
    have hB0 : 1 ≤ lwAt (LwF C 0) P s j ∧ lwAt (LwF C 0) P s j ≤ 999 := ⟨hB.1, hB.2.1⟩
    have hmu := mul_b (x := lwAt (LwF C 0) P s j) (y := s 0 j) (by omega) hB0.2 a1 (b := 99) (by omega)
    refine ⟨hj, by omega, by omega, by omega, fun g2 hg2 => ⟨by omega, fun A3 hA3 => ⟨by omega, ?_⟩⟩⟩
    have x3 : FX o l F A F A3 := by rw [hA3]; exact x2.a (by omega) (by omega)
    refine c_spoutL hR ho hP hI hK m (j + 1) F A3 _ _ (hE.fx ho x3) ?_ (by omega) (by omega) (fun r z0 z1 => ?_) (fun r z0 z1 => ?_) fun A' w3 w4 y1 y2 y3 => hq A' w3 w4 y1 (x3.trans y2) y3
    · rw [hA3]; exact hs2.sc (by omega)
    · rw [hA3, st2_n (by omega), hA2, st2_n (by omega), up2_n (by omega), r22]; exact hab r z0 z1
    · by_cases e : r = j
      · subst e
        refine ⟨?_, ?_, ?_⟩
        · rw [hA3, st2_n (by omega)]; exact r23
        · rw [hA3, st2_n (by omega), hA2, st2_s, u1_s]; rfl
        · rw [hA3, st2_s, u1_s, hg2]; rfl
      · obtain ⟨y1, y2, y3⟩ := hco r z0 (by omega)
        refine ⟨?_, ?_, ?_⟩
        · rw [hA3, st2_n (by omega), hA2, st2_n (by omega), up2_n (by omega), hA1, st2_s, u1_n e, up2_n (by omega)]; exact y1
        · rw [hA3, st2_n (by omega), hA2, st2_s, u1_n e, up2_n (by omega), hA1, st2_n (by omega), up2_n (by omega)]; exact y2
        · rw [hA3, st2_s, u1_n e, hA2, st2_n (by omega), up2_n (by omega), hA1, st2_n (by omega), up2_n (by omega)]; exact y3
theorem SpRows.sc {o : Int} {P s A A' : Fn2} {C : Nat → Option (List Int)} {n : Int} (h : SpRows o P s C n A) (hs : SC o A A') : SpRows o P s C n A' := by
  intro r a b
  rw [hs 23 (by omega) (by omega), hs 24 (by omega) (by omega), hs 26 (by omega) (by omega)]
  exact h r a b
theorem c_downL {X : Int × (Int → Int)} {k : Nat} {Q : Vv → Fn2 → Fn2 → Fn2 → Prop} {R : Fn2} {o q l K c x1 : Int} {P s0 : Fn2} {C : Nat → Option (List Int)} (hR : RS R) (ho : At_Flow o) (hP : WFP P) (hK : K ≤ 41000000) (h0 : ∀ r, 0 ≤ r → r < P 0 0 → 0 ≤ stmR P (lwAt (LwF C 0) P s0) s0 r) : ∀ (n : Nat) (t a g : Int) (s F A : Fn2) (w3 w4 : Vv), FE o q l P C F A R → FS o s F A → Iv P K t c a g s → t + 240 * n ≤ 100000000 → a + 240 * n ≤ 100000000 → g + 99 * n ≤ 100000000 → (n : Int) ≤ P 0 0 → SpRows o P s0 C (P 0 0) A → (∀ F' A', FS o (lpd (stmS P (lwAt (LwF C 0) P s0) (lwAt (LwF C 1) P s0) (stmR P (lwAt (LwF C 0) P s0) s0)) n s) F' A' → FX o l F A F' A' → Q vN F' A' R) → G X (k + 3) m_X2_spout Q 161 [vA o, vI x1, vI ((n : Int) - 1), w3, w4] [] F A R
  | 0, t, a, g, s, F, A, w3, w4, hE, hs, hI, ht, ha, hg, hm, hco, hq => by
    refine b_X2_spout_161 hR ho ⟨fun _ => hq F A hs FX.refl, fun hx => by omega⟩
  | n + 1, t, a, g, s, F, A, w3, w4, hE, hs, hI, ht, ha, hg, hm, hco, hq => by
    have hrr := hP.1
    have ej : ((n + 1 : Nat) : Int) - 1 = n := by omega
    rw [ej]
    have hjr : (n : Int) < P 0 0 := by omega
    have hj : (0 : Int) ≤ n := by omega
    have hS := hE.2.2.2.2.1
    have d1 := dj_SF hE.2.1 ho
    have hs' := hs
    obtain ⟨e0, e1, e2, e3, f5, f6, f7, f8⟩ := hs'
    obtain ⟨a1, a2, a3, a4⟩ := hI.1.1 n hj (by omega)
    obtain ⟨p1, p2, p3, p4, p5, p6, p7, p8, -⟩ := hP.2.1 n hj hjr
    have a3 := a3 hjr
    have hot := hI.hot hP hj (show (n : Int) < 8 by omega)
    have hk := hI.2.2
    unfold Bk at hk
    obtain ⟨r23, r24, r26⟩ := hco n hj hjr
    have h0n := h0 n hj hjr
    have hB := (LwF_ok (C := C) (P 3 n) (abv (P 8) (s0 0) 8 n) (s0 0 n) (wmf (s0 0 n) (s0 1 n)))
    have hB0 : 1 ≤ lwAt (LwF C 0) P s0 n ∧ lwAt (LwF C 0) P s0 n ≤ 999 := ⟨hB.1, hB.2.1⟩
    have hL0 : 0 ≤ lwAt (LwF C 1) P s0 n ∧ lwAt (LwF C 1) P s0 n ≤ 30 := ⟨hB.2.2.1, hB.2.2.2.1⟩
    have hI' := hI.stm (r := n) (Bl := lwAt (LwF C 0) P s0) (Lf := lwAt (LwF C 1) P s0) (St := stmR P (lwAt (LwF C 0) P s0) s0) hP hj hjr hB0.1 h0n
    refine b_X2_spout_161 hR ho ⟨fun hx => by omega, fun _ => ⟨hj, by omega, fun g1 hg1 => ?_⟩⟩
    rw [r26, e0] at hg1
    rw [e0]
    have hg0 : 0 ≤ g1 ∧ g1 ≤ s 0 n ∧ g1 ≤ 99 := by omega
    refine ⟨by omega, fun A2 hA2 => ?_⟩
    have q23 : A2 (o + 23) n = lwAt (LwF C 0) P s0 n := by rw [hA2]; simp only [ne_eq, Int.add_right_inj, Int.reduceEq, not_false_eq_true, st2_n, st2_s, u1_s, u1_u1]; exact r23
    have q19 : A2 (o + 19) = s 1 := by rw [hA2]; simp only [ne_eq, Int.add_right_inj, Int.reduceEq, not_false_eq_true, st2_n, st2_s, u1_s, u1_u1]; exact e1
    rw [q23, q19]
    have hmu := mul_b (x := lwAt (LwF C 0) P s0 n + 50) (y := g1) (by omega) (show _ ≤ 1049 by omega) hg0.1 hg0.2.2
    refine ⟨by omega, by omega, by omega, fun A3 hA3 => ⟨by omega, fun F4 hF4 => ?_⟩⟩
    have q24 : A3 (o + 24) n = lwAt (LwF C 1) P s0 n := by rw [hA3, hA2]; simp only [ne_eq, Int.add_right_inj, Int.reduceEq, not_false_eq_true, st2_n, st2_s, u1_s, u1_u1]; exact r24
    rw [q24]
    have hml := mul_b (x := lwAt (LwF C 1) P s0 n) (y := g1) hL0.1 hL0.2 hg0.1 hg0.2.2
    refine ⟨by omega, ?_⟩
    have x3 : FX o l F A F4 A3 := by rw [hF4, hA3, hA2]; exact ((FX.refl.a (by omega) (by omega)).a (by omega) (by omega)).f (by omega) (by omega)
    have s3 : SC o A A3 := by rw [hA3, hA2]; exact (SC.refl.a (by omega) (by omega)).a (by omega) (by omega)
    have hE3 := hE.fx ho x3
    -- the state as the throwing begins
    have est : FS o (st2 (st2 (st2 s 0 n (s 0 n - g1)) 1 n (max 0 (s 1 n - (lwAt (LwF C 0) P s0 n + 50) * g1))) 9 18 (s 9 18 + g1)) F4 A3 := by
      refine ⟨?_, ?_, ?_, ?_, ?_, ?_, ?_, ?_⟩
      · rw [hA3, hA2]; simp only [ne_eq, Int.add_right_inj, Int.reduceEq, not_false_eq_true, st2_n, st2_s, u1_s, u1_u1, e0]
      · rw [hA3, st2_s, q19]; simp only [ne_eq, Int.add_right_inj, Int.reduceEq, not_false_eq_true, st2_n, st2_s, u1_s, u1_u1]
      · rw [hA3, hA2]; simp only [ne_eq, Int.add_right_inj, Int.reduceEq, not_false_eq_true, st2_n, st2_s, u1_s, u1_u1]; exact e2
      · rw [hA3, hA2]; simp only [ne_eq, Int.add_right_inj, Int.reduceEq, not_false_eq_true, st2_n, st2_s, u1_s, u1_u1]; exact e3
      · rw [hF4]; simp only [ne_eq, Int.add_right_inj, Int.reduceEq, not_false_eq_true, st2_n, st2_s, u1_s, u1_u1, u1_n]; exact f5
      · rw [hF4]; simp only [ne_eq, Int.add_right_inj, Int.reduceEq, not_false_eq_true, st2_n, st2_s, u1_s, u1_u1, u1_n]; exact f6
      · rw [hF4]; simp only [ne_eq, Int.add_right_inj, Int.reduceEq, not_false_eq_true, st2_n, st2_s, u1_s, u1_u1, u1_n]; exact f7
      · rw [hF4]; simp only [ne_eq, Int.add_right_inj, Int.reduceEq, not_false_eq_true, st2_n, st2_s, u1_s, u1_u1, f8]
    have hIs := Iv.put (w := s 0 n - g1) (h := max 0 (s 1 n - (lwAt (LwF C 0) P s0 n + 50) * g1)) hI hP hj hjr (by omega) (by omega) (by omega)
    have hIs := hIs.mono (K' := K) (by
      have : 51 * g1 ≤ (lwAt (LwF C 0) P s0 n + 50) * g1 := Int.mul_le_mul_of_nonneg_right (by omega) hg0.1
      unfold pp; omega) (Int.le_refl _) (Int.le_refl _) (Int.le_refl _) (Int.le_refl _)
    have hIs := hIs.o918 (x := g1) hg0.1
    have e9 : s 9 18 = (st2 (st2 s 0 n (s 0 n - g1)) 1 n (max 0 (s 1 n - (lwAt (LwF C 0) P s0 n + 50) * g1))) 9 18 := by rw [st2_n (by decide), st2_n (by decide)]
    rw [← e9] at hIs
    have unf : stmS P (lwAt (LwF C 0) P s0) (lwAt (LwF C 1) P s0) (stmR P (lwAt (LwF C 0) P s0) s0) n s = thrS P (lwAt (LwF C 1) P s0 n * g1) 8 (P 8 n) (st2 (st2 (st2 s 0 n (s 0 n - g1)) 1 n (max 0 (s 1 n - (lwAt (LwF C 0) P s0 n + 50) * g1))) 9 18 (s 9 18 + g1)) := by
      unfold stmS; rw [← hg1]
    refine Wp.of (k := k + 2) [vA o, vI n, vI (lwAt (LwF C 1) P s0 n * g1), vN, vN, vN, vN, vN, vN, vN] rfl rfl rfl ?_
    refine b_X2_throwUp_0 hR ho hE3.1 hE3.2.1 ⟨hj, by omega, fun u hu => ?_⟩
    rw [hE3.2.2.2.2.1.1 8 (by omega) (by omega)] at hu
    subst hu
    refine c_throwL (k := k + 1) hR ho hP hK 8 0 (P 8 n) t a _ F4 A3 _ _ _ _ _ hE3 est hIs (by omega) (by omega) (by omega) (by omega) (by omega) fun F5 A5 y1 y2 y3 => ?_
    refine b_X2_spout_242 ho ⟨by omega, ?_⟩
    rw [← unf] at y1
    have x5 := x3.trans y2
    exact c_downL hR ho hP hK h0 n (t + 240) (a + 240) (g + 99) _ F5 A5 _ _ (hE.fx ho x5) y1 hI' (by omega) (by omega) (by omega) (by omega) (hco.sc (s3.trans y3)) fun F' A' z1 z2 => hq F' A' z1 (x5.trans z2)
theorem c_spout {X : Int × (Int → Int)} {k : Nat} {Q : Vv → Fn2 → Fn2 → Fn2 → Prop} {F A R : Fn2} {o q l t a g K c : Int} {P s : Fn2} {C : Nat → Option (List Int)} (hR : RS R) (ho : At_Flow o) (hP : WFP P) (hI : Iv P K t c a g s) (hK : K ≤ 41000000) (ht : t ≤ 90000000) (ha : a ≤ 90000000) (hg : g ≤ 90000000) (hE : FE o q l P C F A R) (hs : FS o s F A) (hq : ∀ F' A', FS o (spoutA P (LwF C) s) F' A' → FX o l F A F' A' → Q vN F' A' R) : Wp X (k + 4) m_X2_spout [vA o] F A R Q := by
  have hrr := hP.1
  refine Wp.of [vA o, vN, vN, vN, vN] rfl rfl rfl (b_X2_spout_0 ho (c_weigh (k := k + 2) hR ho hP hI hE hs fun A' y1 y2 y3 => ?_))
  have hE1 := hE.fx ho y2
  refine b_X2_spout_4 ho hE1.1 hE1.2.1 fun g1 hg1 => ?_
  rw [hE1.2.2.2.2.1.2.1] at hg1
  subst hg1
  refine c_spoutL (k := k) hR ho hP hI hK (rms P) 0 F A' vN vN hE1 y1 (by omega) (by rw [rms_e hP]; omega) y3 (fun r a b => by omega) fun A2 w3 w4 z1 z2 z3 => ?_
  have x2 := y2.trans z2
  have e := rms_e hP
  have := c_downL (X := X) (k := k) (Q := Q) (x1 := P 0 0) hR ho hP hK (fun r z0 z1 => stmR_0 hI z0 (by omega)) (rms P) t a g s F A2 w3 w4 (hE.fx ho x2) z1 hI (by omega) (by omega) (by omega) (by omega) z3 fun F' A'' v1 v2 => hq F' A'' v1 (x2.trans v2)
  rw [e] at this
  exact this
theorem c_poolL {X : Int × (Int → Int)} {k : Nat} {Q : Vv → Fn2 → Fn2 → Fn2 → Prop} {R : Fn2} {o q l K t c g : Int} {P : Fn2} {C : Nat → Option (List Int)} (hR : RS R) (ho : At_Flow o) (hP : WFP P) (hK : K ≤ 41000000) : ∀ (m : Nat) (j a : Int) (s F A : Fn2) (w2 : Vv), FE o q l P C F A R → FS o s F A → Iv P K t c a g s → a + 99 * m ≤ 100000000 → 0 ≤ j → j + m = P 0 0 → (∀ F' A', FS o (lp (poolS P) m j s) F' A' → FX o l F A F' A' → Q vN F' A' R) → G X (k + 1) m_X2_emptyPools Q 2 [vA o, vI j, w2] [] F A R
  | 0, j, a, s, F, A, w2, hE, hs, hI, ha, hj, hm, hq => by
    refine b_X2_emptyPools_2 hR ho hE.1 hE.2.1 ⟨fun _ => hq F A hs FX.refl, fun hx => ?_⟩
    rw [hE.2.2.2.2.1.2.1] at hx; omega
  | m + 1, j, a, s, F, A, w2, hE, hs, hI, ha, hj, hm, hq => by
    have hrr := hP.1
    have hjr : j < P 0 0 := by omega
    obtain ⟨a1, a2, a3, a4⟩ := hI.1.1 j hj (by omega)
    obtain ⟨p1, p2, p3, p4, p5, p6, -⟩ := hP.2.1 j hj hjr
    have a3 := a3 hjr
    have hot := hI.hot hP hj (show j < 8 by omega)
    have hS := hE.2.2.2.2.1
    have hk := hI.2.2
    unfold Bk at hk
    have hI' := hI.pool (r := j) hP hj hjr
    have hs' := hs
    obtain ⟨e0, e1, e2, e3, f5, f6, f7, f8⟩ := hs'
    have no : ¬ (P 1 j = 2 ∧ P 4 j ≤ s 0 j) → G X (k + 1) m_X2_emptyPools Q 2 [vA o, vI (j + 1), w2] [] F A R := fun hn => by
      have e : poolS P j s = s := by unfold poolS; rw [if_neg hn]
      refine c_poolL hR ho hP hK m (j + 1) (a + 99) s F A w2 hE hs (by rw [e] at hI'; exact hI') (by omega) (by omega) (by omega) fun F' A' y1 y2 => hq F' A' ?_ y2
      unfold lp; rw [e]; exact y1
    refine b_X2_emptyPools_2 hR ho hE.1 hE.2.1 ⟨fun hx => ?_, fun _ => ⟨hj, by omega, ?_⟩⟩
    · rw [hS.2.1] at hx; omega
    rw [hS.1 1 (by omega) (by omega), hS.1 4 (by omega) (by omega), e0]
    refine ⟨fun hz => ⟨by omega, no (by omega)⟩, fun hz => ⟨fun hz2 => ⟨by omega, no (by omega)⟩, fun hz2 => ⟨by omega, by omega, fun g1 hg1 => ?_⟩⟩⟩
    have hd := dvr a2 (n := g1) (w := s 0 j) (by omega) (by omega)
    refine c_lose (k := k) (l := l) hR ho hs hj (by omega) (by omega) (by omega) (by omega) a2 (by omega) fun A' hs' hX hsc => ?_
    obtain ⟨t0, t1, t2, t3, t5, t6, t7, t8⟩ := hs'
    have e : poolS P j s = st2 (tkS j g1 s) 9 17 (s 9 17 + g1) := by unfold poolS; rw [if_pos ⟨hz, by omega⟩, hg1]
    have t9 : (tkS j g1 s) 9 = s 9 := tkS_r (by decide) (by decide)
    refine b_X2_emptyPools_69 ho ?_
    rw [t7, t9]
    refine ⟨by omega, fun F1 hF1 => ⟨by omega, ?_⟩⟩
    have x5 : FX o l F A F1 A' := by rw [hF1]; exact hX.f (by omega) (by omega)
    refine c_poolL hR ho hP hK m (j + 1) (a + 99) (poolS P j s) F1 A' _ (hE.fx ho x5) ?_ hI' (by omega) (by omega) (by omega) fun F' A'' y1 y2 => hq F' A'' y1 (x5.trans y2)
    rw [e]
    refine ⟨?_, ?_, ?_, ?_, ?_, ?_, ?_, ?_⟩
    · simp only [ne_eq, Int.add_right_inj, Int.reduceEq, not_false_eq_true, st2_n, st2_s, u1_s, u1_u1]; exact t0
    · simp only [ne_eq, Int.add_right_inj, Int.reduceEq, not_false_eq_true, st2_n, st2_s, u1_s, u1_u1]; exact t1
    · simp only [ne_eq, Int.add_right_inj, Int.reduceEq, not_false_eq_true, st2_n, st2_s, u1_s, u1_u1]; exact t2
    · simp only [ne_eq, Int.add_right_inj, Int.reduceEq, not_false_eq_true, st2_n, st2_s, u1_s, u1_u1]; exact t3
    · rw [hF1]; simp only [ne_eq, Int.add_right_inj, Int.reduceEq, not_false_eq_true, st2_n, st2_s, u1_s, u1_u1, u1_n]; exact t5
    · rw [hF1]; simp only [ne_eq, Int.add_right_inj, Int.reduceEq, not_false_eq_true, st2_n, st2_s, u1_s, u1_u1, u1_n]; exact t6
    · rw [hF1]; simp only [ne_eq, Int.add_right_inj, Int.reduceEq, not_false_eq_true, st2_n, st2_s, u1_s, u1_u1]
    · rw [hF1]; simp only [ne_eq, Int.add_right_inj, Int.reduceEq, not_false_eq_true, st2_n, st2_s, u1_s, u1_u1, u1_n]; exact t8
/-- a whole second of the class -/
theorem c_pass {X : Int × (Int → Int)} {k : Nat} {Q : Vv → Fn2 → Fn2 → Fn2 → Prop} {F A R : Fn2} {o q l t a g K c cw jn lr lg : Int} {P s : Fn2} {C : Nat → Option (List Int)} (hR : RS R) (ho : At_Flow o) (hP : WFP P) (hI : Iv P K t c a g s) (hK : K + 19512 ≤ 41000000) (ht : t ≤ 80000000) (hc : c ≤ 80000000) (ha : a ≤ 80000000) (hg : g ≤ 80000000) (hE : FE o q l P C F A R) (hs : FS o s F A) (h2 : F o 2 = cw) (hcw : 0 ≤ cw) (hcw2 : cw ≤ 99) (h12 : F o 12 = jn) (h13 : F o 13 = lr) (h14 : F o 14 = lg) (hlg : 0 ≤ lg)
    (hq : ∀ F' A', FS o (tickA P (LwF C) cw jn lr lg s) F' A' → FX o l F A F' A' → Q vN F' A' R) : Wp X (k + 5) m_X2_passSecond [vA o] F A R Q := by
  have hrr := hP.1
  refine Wp.of [vA o] rfl rfl rfl (b_X2_passSecond_0 ho fun F1 hF1 => ?_)
  have x1 : FX o l F A F1 A := by rw [hF1]; exact FX.refl.f (by omega) (by omega)
  have hE1 := hE.fx ho x1
  have hs1 : FS o (st2 s 9 15 0) F1 A := by
    obtain ⟨e0, e1, e2, e3, f5, f6, f7, f8⟩ := hs
    rw [hF1]
    refine ⟨?_, ?_, ?_, ?_, ?_, ?_, ?_, ?_⟩ <;> simp only [ne_eq, Int.add_right_inj, Int.reduceEq, not_false_eq_true, st2_n, st2_s, u1_s, u1_u1, u1_n] <;> assumption
  have hI1 := hI.t0
  refine c_cool (k := k) hR ho hP hI1 hE1 hs1 fun A1 y1 y2 y3 => ?_
  have x2 := x1.trans y2
  refine b_X2_passSecond_9 ho ?_
  have hI2 := iv_fillA hI1 hP (LwF_ok (C := C)) hcw hcw2
  have F1c : F1 o 2 = cw := by rw [x2.2 _ _ (by omega)]; exact h2
  refine Wp.of (k := k + 3) [vA o, vN, vN] rfl rfl rfl (b_X2_fill_0 ho ?_)
  refine c_fillL hR ho hP hcw hcw2 (fun r z0 z1 => ⟨(LwF_ok _ _ _ _).2.2.2.2.1, (LwF_ok _ _ _ _).2.2.2.2.2⟩) (rms P) 0 K c _ F1 A1 vN (hE.fx ho x2) y1 F1c y3 hI1 (by have := rms_e hP; omega) (by have := rms_e hP; omega) (by omega) (by rw [rms_e hP]; omega) fun F2 A2 z1 z2 => ?_
  have x3 := x2.trans z2
  have z1 : FS o (fillA P (LwF C) cw (st2 s 9 15 0)) F2 A2 := z1
  have hE3 := hE.fx ho x3
  -- behind the levelling
  have hI3 := iv_joinA (jn := jn) hI2 hP
  have aft : ∀ F3 A3, FS o (joinA P jn (fillA P (LwF C) cw (st2 s 9 15 0))) F3 A3 → FX o l F A F3 A3 → G X (k + 4) m_X2_passSecond Q 24 [vA o] [] F3 A3 R := by
    intro F3 A3 v1 v2
    have hE4 := hE.fx ho v2
    refine b_X2_passSecond_24 ho (c_spout (k := k) hR ho hP hI3 (by omega) (by omega) (by omega) (by omega) hE4 v1 fun F4 A4 u1' u2' => ?_)
    have x4 := v2.trans u2'
    have hE5 := hE.fx ho x4
    have hI4 := iv_spoutA hI3 hP (LwF_ok (C := C))
    refine b_X2_passSecond_28 ho ?_
    refine Wp.of (k := k + 3) [vA o, vN, vN] rfl rfl rfl (b_X2_emptyPools_0 ho ?_)
    refine c_poolL (k := k + 2) hR ho hP (show K + 19512 ≤ 41000000 by omega) (rms P) 0 _ _ F4 A4 vN hE5 u1' hI4 (by have := rms_e hP; omega) (by omega) (by rw [rms_e hP]; omega) fun F5 A5 n1 n2 => ?_
    have x5 := x4.trans n2
    have hE6 := hE.fx ho x5
    have hI5 := iv_poolA hI4 hP
    have n1 : FS o (tick0 P (LwF C) cw jn s) F5 A5 := n1
    have hI5 : Iv P (K + 19512) (0 + 1920) (c + 240) (a + 1920 + 792) (g + 792) (tick0 P (LwF C) cw jn s) := hI5
    have g13 : F5 o 13 = lr := by rw [x5.2 _ _ (by omega)]; exact h13
    have g14 : F5 o 14 = lg := by rw [x5.2 _ _ (by omega)]; exact h14
    refine b_X2_passSecond_32 hR ho hE6.1 hE6.2.1 ?_
    rw [g13, g14, hE6.2.2.2.2.1.2.1, n1.1]
    have no : ¬ (0 ≤ lr ∧ lr < P 0 0) → Q vN F5 A5 R := fun hn => by
      refine hq F5 A5 ?_ x5
      unfold tickA ledA; rw [if_neg hn]; exact n1
    refine ⟨fun hz => no (by omega), fun hz => ⟨fun hz2 => no (by omega), fun hz2 => ⟨by omega, by omega, ?_⟩⟩⟩
    obtain ⟨a1, a2, a3, a4⟩ := hI5.1.1 lr (by omega) (by omega)
    have a3 := a3 hz2
    have p2 := (hP.2.1 lr (by omega) hz2).2.1
    have hot := hI5.hot hP (show 0 ≤ lr by omega) (show lr < 8 by omega)
    refine c_lose (k := k + 3) (l := l) hR ho n1 (by omega) (by omega) (by omega) (by omega) (by omega) a2 (by omega) fun A' hs' hX hsc => b_X2_passSecond_77 ho ?_
    refine hq F5 A' ?_ (x5.trans hX)
    unfold tickA ledA; rw [if_pos ⟨by omega, hz2⟩]; exact hs'
  have g12 : F2 o 12 = jn := by rw [x3.2 _ _ (by omega)]; exact h12
  refine b_X2_passSecond_13 ho ?_
  rw [g12]
  refine ⟨fun hz => aft F2 A2 (by unfold joinA; rw [if_pos hz]; exact z1) x3, fun hz => ?_⟩
  refine Wp.of (k := k + 3) [vA o, vN, vN, vN, vN, vN] rfl rfl rfl (b_X2_level_0 ho ?_)
  refine c_levelL (k := k + 2) hR ho hP (show K + 19512 ≤ 41000000 by omega) (jns P) 0 _ F2 A2 vN vN vN vN hE3 z1 hI2 (by omega) (by rw [jns_e hP]; omega) fun F3 A3 u1' u2' => ?_
  exact aft F3 A3 (by unfold joinA; rw [if_neg hz]; exact u1') (x3.trans u2')
