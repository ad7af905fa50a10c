/-! THE REFERENCE'S COURSES, run -/
def RX (F A F' A' : Fn2) : Prop := (∀ a, a < 396 ∨ 407 < a ∨ a = 397 ∨ a = 400 → A' a = A a) ∧ ∀ x f, x ≠ 373 ∨ f < 50 ∨ 54 < f ∧ f ≠ 61 ∧ f ≠ 62 → F' x f = F x f
theorem RX.refl {F A : Fn2} : RX F A F A := ⟨fun _ _ => rfl, fun _ _ _ => rfl⟩
theorem RX.trans {F A F1 A1 F2 A2 : Fn2} (h : RX F A F1 A1) (g : RX F1 A1 F2 A2) : RX F A F2 A2 :=
  ⟨fun a h1 => (g.1 a h1).trans (h.1 a h1), fun x f h1 => (g.2 x f h1).trans (h.2 x f h1)⟩
theorem XE.rx {b : Int} {P F A F' A' : Fn2} {C : Nat → Option (List Int)} (h : XE b P C F A) (x : RX F A F' A') : XE b P C F' A' := by
  obtain ⟨a1, a2, a3, a4, a5, a6, a7, a8⟩ := h
  have z : ∀ i c, XL1 A i c → XL1 A' i c := fun i c hc => hc.of (x.1 _ (by omega)) (x.1 _ (by omega)) (x.1 _ (by omega)) (x.1 _ (by omega)) (x.1 _ (by omega))
  refine ⟨?_, a2, a3, ?_, ?_, z _ _ a6, z _ _ a7, z _ _ a8⟩
  · rw [x.2 _ _ (by omega)]; exact a1
  · rw [RPm_st (A := A) (A' := A') (fun a h1 h2 => x.1 a (by omega))]; exact a4
  · rw [x.2 _ _ (by omega)]; exact a5
theorem iv_it {P s : Fn2} {L : Nat → Lw4} {cw jn lr lg K c a g : Int} (hP : WFP P) (hL : WFL L) (hc : 0 ≤ cw) (hc' : cw ≤ 99) (hl : 0 ≤ lg) (hI : Iv P K 1920 c a g s) : ∀ n : Nat, Iv P (K + 19512 * n) 1920 (c + 240 * n) (a + 2712 * n) (g + 792 * n) (itS (tickA P L cw jn lr lg) n s)
  | 0 => by simpa [itS] using hI
  | n + 1 => by
    have := iv_tick (jn := jn) (lr := lr) (iv_it (jn := jn) (lr := lr) hP hL hc hc' hl hI n) hP hL hc hc' hl
    exact this.mono (by omega) (by omega) (by omega) (by omega) (by omega)
/-- the ref's second, with where it stands: state z, second t -/
def RQ (b cw jn t : Int) (P : Fn2) (C : Nat → Option (List Int)) (z F A : Fn2) : Prop := XE b P C F A ∧ XS z F A ∧ F 373 53 = z 9 17 ∧ F 373 55 = cw ∧ F 373 57 = jn ∧ F 373 50 = t
theorem x_sec {X : Int × (Int → Int)} {k : Nat} {Q : Vv → Fn2 → Fn2 → Fn2 → Prop} {F A R : Fn2} {b t0 a g K c cw jn t : Int} {P z : Fn2} {C : Nat → Option (List Int)} (hR : RS R) (hP : WFP P) (hI : Iv P K t0 c a g z) (hK : K + 19512 ≤ 41000000) (hc : c ≤ 80000000) (ha : a ≤ 80000000) (hg : g ≤ 80000000) (hcw : 0 ≤ cw) (hcw2 : cw ≤ 99) (ht0 : 0 ≤ t) (ht : t ≤ 100000) (h : RQ b cw jn t P C z F A)
    (hq : ∀ F' A', RQ b cw jn (t + 1) P C (tick0 P (LwF C) cw jn z) F' A' → RX F A F' A' → (∀ a, 405 ≤ a → a ≤ 407 → A' a = A a) → F' 373 61 = F 373 61 → F' 373 62 = F 373 62 → Q vN F' A' R) : Wp X (k + 6) m_X11_tick [vA 373] F A R Q := by
  obtain ⟨h1, h2, h3, h4, h5, h6⟩ := h
  refine x_tick (k := k) hR hP hI hK hc ha hg h1 h2 h3 h4 hcw hcw2 h5 (by omega) (by omega) fun F' A' y1 y2 y3 y4 y5 => ?_
  have x : RX F A F' A' := ⟨fun a ha => y5 a (by omega), fun x f hx => y4 x f (by omega)⟩
  refine hq F' A' ⟨h1.rx x, y1, y2, ?_, ?_, by rw [y3, h6]⟩ x (fun a h1 h2 => y5 a (by omega)) (y4 _ _ (by omega)) (y4 _ _ (by omega))
  · rw [y4 _ _ (by omega)]; exact h4
  · rw [y4 _ _ (by omega)]; exact h5
theorem x_goToL {X : Int × (Int → Int)} {k : Nat} {Q : Vv → Fn2 → Fn2 → Fn2 → Prop} {R : Fn2} {b cw sh K c a g : Int} {N : Nat} {P s F0 A0 : Fn2} {C : Nat → Option (List Int)} (hR : RS R) (hP : WFP P) (hI : Iv P K 1920 c a g s) (hK : K + 19512 * N + 19512 ≤ 41000000) (hc : c + 240 * N ≤ 10000000) (ha : a + 2712 * N ≤ 10000000) (hg : g + 792 * N ≤ 10000000) (hN : N ≤ 2000) (hcw : 0 ≤ cw) (hcw2 : cw ≤ 99) (hq : ∀ F' A', RQ b cw 1 N P C (itS (tickA P (LwF C) cw 1 (-1) 0) N s) F' A' → RX F0 A0 F' A' → Q vN F' A' R) : ∀ (m t : Nat) (F A : Fn2), t + m = N → RX F0 A0 F A → RQ b cw 1 t P C (itS (tickA P (LwF C) cw 1 (-1) 0) t s) F A → G X (k + 6) m_X11_goTo Q 5 [vA 373, vI sh, vI N] [] F A R
  | 0, t, F, A, hm, hX, h => by
    have e : t = N := by omega
    subst e
    refine b_X11_goTo_5 ?_
    rw [h.2.2.2.2.2]
    exact ⟨fun _ => hq F A h hX, fun hx => by omega⟩
  | m + 1, t, F, A, hm, hX, h => by
    have hIt := iv_it (jn := 1) (lr := -1) (lg := 0) hP (LwF_ok (C := C)) hcw hcw2 (by omega) hI t
    refine b_X11_goTo_5 ?_
    rw [h.2.2.2.2.2]
    refine ⟨fun hx => by omega, fun _ => ?_⟩
    refine x_sec (k := k) hR hP hIt (by omega) (by omega) (by omega) (by omega) hcw hcw2 (by omega) (by omega) h fun F' A' y1 y2 y3 y4 y5 => b_X11_goTo_17 ?_
    have e : tick0 P (LwF C) cw 1 (itS (tickA P (LwF C) cw 1 (-1) 0) t s) = itS (tickA P (LwF C) cw 1 (-1) 0) (t + 1) s := (tick_led0 (by omega)).symm
    rw [e] at y1
    exact x_goToL hR hP hI hK hc ha hg hN hcw hcw2 hq m (t + 1) F' A' (by omega) (hX.trans y2) y1
/-- a spring's bank in the reference, and what else stands -/
def XG (b : Int) (P : Fn2) (C : Nat → Option (List Int)) (A : Fn2) : Prop := 0 ≤ b ∧ b ≤ 4 ∧ RPm b A = P ∧ XLw A C ∧ WFP P
theorem XB.rq {b cw : Int} {P F A F' A' s : Fn2} {C : Nat → Option (List Int)} (h : XB b P F A F' A') (hG : XG b P C A) (hcw : F 373 55 = cw) (hs : XS s F' A') (h17 : s 9 17 = 0) : RQ b cw 1 0 P C s F' A' := by
  obtain ⟨h1, h2, h3, h4, h5, -, h7, h8⟩ := h
  obtain ⟨a2, a3, a4, ⟨a6, a7, a8⟩, a9⟩ := hG
  have z : ∀ i c, XL1 A i c → XL1 A' i c := fun i c hc => hc.of (h7 _ (by omega)) (h7 _ (by omega)) (h7 _ (by omega)) (h7 _ (by omega)) (h7 _ (by omega))
  refine ⟨⟨h1, a2, a3, ?_, h2, z _ _ a6, z _ _ a7, z _ _ a8⟩, hs, by rw [h5, h17], ?_, h3, h4⟩
  · rw [RPm_st (A := A) (A' := A') (fun a h1 h2 => h7 a (by omega))]; exact a4
  · rw [h8 _ _ (by omega)]; exact hcw
def RXB (F A F' A' : Fn2) : Prop := (∀ a, a < 396 ∨ 407 < a ∨ a = 397 → A' a = A a) ∧ ∀ x f, x ≠ 373 ∨ f < 48 ∨ 54 < f ∧ f ≠ 61 ∧ f ≠ 62 ∧ f ≠ 57 → F' x f = F x f
theorem RXB.refl {F A : Fn2} : RXB F A F A := ⟨fun _ _ => rfl, fun _ _ _ => rfl⟩
theorem RXB.trans {F A F1 A1 F2 A2 : Fn2} (h : RXB F A F1 A1) (g : RXB F1 A1 F2 A2) : RXB F A F2 A2 :=
  ⟨fun a h1 => (g.1 a h1).trans (h.1 a h1), fun x f h1 => (g.2 x f h1).trans (h.2 x f h1)⟩
theorem RX.b {F A F' A' : Fn2} (h : RX F A F' A') : RXB F A F' A' := ⟨fun a h1 => h.1 a (by omega), fun x f h1 => h.2 x f (by omega)⟩
theorem XB.b {b : Int} {P F A F' A' : Fn2} (h : XB b P F A F' A') : RXB F A F' A' := ⟨fun a h1 => h.2.2.2.2.2.2.1 a (by omega), fun x f h1 => h.2.2.2.2.2.2.2 x f (by omega)⟩
theorem XG.rxb {b : Int} {P F A F' A' : Fn2} {C : Nat → Option (List Int)} (h : XG b P C A) (x : RXB F A F' A') : XG b P C A' := by
  obtain ⟨a2, a3, a4, ⟨a6, a7, a8⟩, a9⟩ := h
  have z : ∀ i c, XL1 A i c → XL1 A' i c := fun i c hc => hc.of (x.1 _ (by omega)) (x.1 _ (by omega)) (x.1 _ (by omega)) (x.1 _ (by omega)) (x.1 _ (by omega))
  refine ⟨a2, a3, ?_, ⟨z _ _ a6, z _ _ a7, z _ _ a8⟩, a9⟩
  rw [RPm_st (A := A) (A' := A') (fun a h1 h2 => x.1 a (by omega))]; exact a4
theorem x_goTo {X : Int × (Int → Int)} {k : Nat} {Q : Vv → Fn2 → Fn2 → Fn2 → Prop} {F A R : Fn2} {b cw sh : Int} {N : Nat} {P : Fn2} {C : Nat → Option (List Int)} (hR : RS R) (hG : XG b P C A) (h0 : 0 ≤ sh) (h4 : sh < 4) (hb : A 376 sh = b) (hN : N ≤ 1000) (h55 : F 373 55 = cw) (hcw : 0 ≤ cw) (hcw2 : cw ≤ 99) (hq : ∀ F' A' z, RQ b cw 1 N P C z F' A' → SEq True True P z (rnS P C cw N) → Iv P (19512 * N) 1920 (240 * N) (2712 * N) (792 * N) z → RXB F A F' A' → Q vN F' A' R) : Wp X (k + 7) m_X11_goTo [vA 373, vI sh, vI N] F A R Q := by
  have hP := hG.2.2.2.2
  refine Wp.of [vA 373, vI sh, vI N] rfl rfl rfl (b_X11_goTo_0 (x_begin (k := k + 5) hR h0 h4 hb ⟨hG.1, hG.2.1⟩ hP hG.2.2.1 fun F1 A1 hB => ?_))
  obtain ⟨s, s1, s2, s3, s4, s5⟩ := hB.2.2.2.2.2.1
  have hI : Iv P 0 1920 0 0 0 s := s4.mono (by omega) (by omega) (by omega) (by omega) (by omega)
  have hrq := hB.rq hG h55 s1 s2
  refine x_goToL (k := k) (b := b) (cw := cw) (C := C) hR hP hI (by omega) (by omega) (by omega) (by omega) (by omega) hcw hcw2 (fun F' A' y1 y2 => hq F' A' _ y1 ?_ ?_ (hB.b.trans y2.b)) N 0 F1 A1 (by omega) RX.refl hrq
  · have : ∀ n, SEq True True P (itS (tickA P (LwF C) cw 1 (-1) 0) n s) (rnS P C cw n) := by
      intro n
      induction n with
      | zero => exact s3
      | succ n ih => exact tick_cong hP PEq.refl ih
    exact this N
  · exact (iv_it (jn := 1) (lr := -1) (lg := 0) hP (LwF_ok (C := C)) hcw hcw2 (by omega) hI N).mono (by omega) (by omega) (by omega) (by omega) (by omega)
/-- the plays so far, in the reference's rows -/
def RPl (hi : Int) (T : Nat → Int) (t : Nat) (F A : Fn2) : Prop := F 373 61 = psN hi T t 3 0 ∧ F 373 62 = psN hi T t 3 1 ∧ PlR 405 406 407 (psN hi T t) A
theorem x_courseL {X : Int × (Int → Int)} {k : Nat} {Q : Vv → Fn2 → Fn2 → Fn2 → Prop} {R : Fn2} {b cw jn lr lg hi K c a g : Int} {N : Nat} {P s F0 A0 : Fn2} {C : Nat → Option (List Int)} (hR : RS R) (hP : WFP P) (hI : Iv P K 1920 c a g s) (hK : K + 19512 * N + 19512 ≤ 41000000) (hc : c + 240 * N ≤ 10000000) (ha : a + 2712 * N ≤ 10000000) (hg : g + 792 * N ≤ 10000000) (hN : N ≤ 2000) (hcw : 0 ≤ cw) (hcw2 : cw ≤ 99) (hlg : 0 ≤ lg) (hlg2 : lg ≤ 50) (hlr : lr < P 0 0) (h56 : F0 373 56 = hi) {T : Nat → Int} (hT : ∀ t : Nat, T t = itS (tickA P (LwF C) cw jn lr lg) t s 9 15)
    (hq : ∀ F' A', RQ b cw jn N P C (itS (tickA P (LwF C) cw jn lr lg) N s) F' A' → F' 373 61 = min (cnN hi T N) 200 → PlR 405 406 407 (psN hi T N) A' → RX F0 A0 F' A' → Q vN F' A' R) : ∀ (m t : Nat) (F A : Fn2) (w4 w5 w6 : Vv), t + m = N → RX F0 A0 F A → RQ b cw jn t P C (itS (tickA P (LwF C) cw jn lr lg) t s) F A → RPl hi T t F A → G X (k + 6) m_X11_course Q 4 [vA 373, vI N, vI lr, vI lg, w4, w5, w6] [] F A R
  | 0, t, F, A, w4, w5, w6, hm, hX, h, hp => by
    have e : t = N := by omega
    subst e
    refine b_X11_course_4 ?_
    rw [h.2.2.2.2.2, hp.1]
    refine ⟨fun _ => x_lesser (k := k + 5) (b_X11_course_74 fun F1 hF1 => ?_), fun hx => by omega⟩
    have x1 : RX F A F1 A := ⟨fun _ _ => rfl, fun x f hx => by
      rw [hF1]
      by_cases e : x = 373
      · subst e; rw [st2_s, u1_n (by omega)]
      · rw [st2_n e]⟩
    obtain ⟨h1, h2, h3, h4, h5, h6⟩ := h
    refine hq F1 A ⟨h1.rx x1, ?_, ?_, ?_, ?_, ?_⟩ ?_ hp.2.2 (hX.trans x1)
    · obtain ⟨k1, k2, k3, k4, k5, k6⟩ := h2
      refine ⟨k1, k2, k3, ?_, ?_, ?_⟩ <;> rw [hF1] <;> simp only [ne_eq, Int.add_right_inj, Int.reduceEq, not_false_eq_true, st2_n, st2_s, u1_s, u1_u1, u1_n] <;> assumption
    · rw [hF1]; simp only [ne_eq, Int.add_right_inj, Int.reduceEq, not_false_eq_true, st2_n, st2_s, u1_s, u1_u1, u1_n]; exact h3
    · rw [hF1]; simp only [ne_eq, Int.add_right_inj, Int.reduceEq, not_false_eq_true, st2_n, st2_s, u1_s, u1_u1, u1_n]; exact h4
    · rw [hF1]; simp only [ne_eq, Int.add_right_inj, Int.reduceEq, not_false_eq_true, st2_n, st2_s, u1_s, u1_u1, u1_n]; exact h5
    · rw [hF1]; simp only [ne_eq, Int.add_right_inj, Int.reduceEq, not_false_eq_true, st2_n, st2_s, u1_s, u1_u1, u1_n]; exact h6
    · rw [hF1, st2_s, u1_s]; rfl
  | m + 1, t, F, A, w4, w5, w6, hm, hX, h, hp => by
    have hIt := iv_it (jn := jn) (lr := lr) (lg := lg) hP (LwF_ok (C := C)) hcw hcw2 hlg hI t
    refine b_X11_course_4 ?_
    rw [h.2.2.2.2.2]
    refine ⟨fun hx => by omega, fun _ => ?_⟩
    refine x_sec (k := k) hR hP hIt (by omega) (by omega) (by omega) (by omega) hcw hcw2 (by omega) (by omega) h fun F1 A1 y1 y2 y3 y4 y5 => b_X11_course_16 ?_
    have hI0 := iv_tick0 (jn := jn) (L := LwF C) hIt hP LwF_ok hcw hcw2
    have eT : T (t + 1) = tick0 P (LwF C) cw jn (itS (tickA P (LwF C) cw jn lr lg) t s) 9 15 := by
      rw [hT]
      show ledA P lr lg (tick0 P (LwF C) cw jn (itS (tickA P (LwF C) cw jn lr lg) t s)) 9 15 = _
      unfold ledA; split
      · rw [tk9]
      · rfl
    have hk0 := hI0.2.2
    unfold Bk at hk0
    have y1' := y1
    obtain ⟨g1, g2, g3, g4, g5, g6⟩ := y1'
    have h51 : F1 373 51 = T (t + 1) := by rw [eT]; exact g2.2.2.2.1
    refine x_see (k := k + 5) (hi := hi) (T := T (t + 1)) (t := t) (p := psN hi T t) hR (plI t) (by omega) (by omega) h51 (by rw [eT]; omega) g6 (by rw [(hX.trans y2).2 _ _ (by omega)]; exact h56) (by rw [y4]; exact hp.1) (by rw [y5]; exact hp.2.1) (fun i a b => by rw [y3 _ (by omega) (by omega), y3 _ (by omega) (by omega), y3 _ (by omega) (by omega)]; exact hp.2.2 i a b) fun F2 A2 z1 z2 z3 z4 z5 => ?_
    have x2 : RX F1 A1 F2 A2 := ⟨fun a ha => z4 a (by omega), fun x f hx => z5 x f (by omega)⟩
    have hrq2 : RQ b cw jn ((t : Int) + 1) P C (tick0 P (LwF C) cw jn (itS (tickA P (LwF C) cw jn lr lg) t s)) F2 A2 := by
      refine ⟨g1.rx x2, ?_, ?_, ?_, ?_, ?_⟩
      · obtain ⟨k1, k2, k3, k4, k5, k6⟩ := g2
        refine ⟨?_, ?_, ?_, ?_, ?_, ?_⟩
        · rw [z4 _ (by omega)]; exact k1
        · rw [z4 _ (by omega)]; exact k2
        · rw [z4 _ (by omega)]; exact k3
        · rw [z5 _ _ (by omega)]; exact k4
        · rw [z5 _ _ (by omega)]; exact k5
        · rw [z5 _ _ (by omega)]; exact k6
      · rw [z5 _ _ (by omega)]; exact g3
      · rw [z5 _ _ (by omega)]; exact g4
      · rw [z5 _ _ (by omega)]; exact g5
      · rw [z5 _ _ (by omega)]; exact g6
    have hpl2 : RPl hi T (t + 1) F2 A2 := ⟨z1, z2, z3⟩
    have xx := (hX.trans y2).trans x2
    have nx : ∀ F3 A3 w4 w5 w6, RX F2 A2 F3 A3 → RQ b cw jn ((t : Int) + 1) P C (itS (tickA P (LwF C) cw jn lr lg) (t + 1) s) F3 A3 → RPl hi T (t + 1) F3 A3 → G X (k + 6) m_X11_course Q 4 [vA 373, vI N, vI lr, vI lg, w4, w5, w6] [] F3 A3 R := fun F3 A3 w4 w5 w6 n1 n2 n3 =>
      x_courseL hR hP hI hK hc ha hg hN hcw hcw2 hlg hlg2 hlr h56 hT hq m (t + 1) F3 A3 w4 w5 w6 (by omega) (xx.trans n1) n2 n3
    refine b_X11_course_20 hR ⟨fun hneg => ?_, fun hneg => ?_⟩
    · have h8 := hP.1
      obtain ⟨a1, a2, a3, a4⟩ := hI0.1.1 lr (by omega) (by omega)
      have a3 := a3 hlr
      have p2 := (hP.2.1 lr (by omega) hlr).2.1
      have hot := hI0.hot hP (show 0 ≤ lr by omega) (show lr < 8 by omega)
      refine ⟨by omega, by omega, x_lesser (k := k + 5) (b_X11_course_40 ?_)⟩
      rw [hrq2.2.1.1]
      have el : itS (tickA P (LwF C) cw jn lr lg) (t + 1) s = tkS lr (min lg (tick0 P (LwF C) cw jn (itS (tickA P (LwF C) cw jn lr lg) t s) 0 lr)) (tick0 P (LwF C) cw jn (itS (tickA P (LwF C) cw jn lr lg) t s)) := by
        show ledA P lr lg _ = _
        unfold ledA; rw [if_pos ⟨by omega, hlr⟩]
      generalize tick0 P (LwF C) cw jn (itS (tickA P (LwF C) cw jn lr lg) t s) = z at *
      refine ⟨fun hz => nx F2 A2 _ _ _ RX.refl ?_ hpl2, fun hz => ?_⟩
      · have e0 : min lg (z 0 lr) = 0 := by omega
        rw [e0, tk_0] at el
        rw [el]; exact hrq2
      · refine x_take (k := k + 5) hR hrq2.2.1 (by omega) (by omega) (by omega) (by omega) (by omega) (by omega) a2 (by omega) fun A3 hs3 hX3 hsc3 _ => b_X11_course_54 ?_
        have x3 : RX F2 A2 F2 A3 := ⟨fun a ha => hX3.1 a (by omega), fun _ _ _ => rfl⟩
        refine nx F2 A3 _ _ _ x3 ?_ ⟨hpl2.1, hpl2.2.1, fun i a b => by rw [hX3.1 _ (by omega), hX3.1 _ (by omega), hX3.1 _ (by omega)]; exact hpl2.2.2 i a b⟩
        rw [el]
        exact ⟨hrq2.1.rx x3, hs3, by rw [tk9]; exact hrq2.2.2.1, hrq2.2.2.2.1, hrq2.2.2.2.2.1, hrq2.2.2.2.2.2⟩
    · refine b_X11_course_40 ⟨fun _ => nx F2 A2 _ _ _ RX.refl ?_ hpl2, fun hx => absurd hx (by omega)⟩
      have el : itS (tickA P (LwF C) cw jn lr lg) (t + 1) s = tick0 P (LwF C) cw jn (itS (tickA P (LwF C) cw jn lr lg) t s) := by
        show tickA P _ cw jn lr lg _ = _
        exact tick_led0 hneg
      rw [el]; exact hrq2
theorem x_course {X : Int × (Int → Int)} {k : Nat} {Q : Vv → Fn2 → Fn2 → Fn2 → Prop} {F A R : Fn2} {b cw jn lr lg hi K c a g : Int} {N : Nat} {P s : Fn2} {C : Nat → Option (List Int)} (hR : RS R) (hP : WFP P) (hI : Iv P K 1920 c a g s) (hK : K + 19512 * N + 19512 ≤ 41000000) (hc : c + 240 * N ≤ 10000000) (ha : a + 2712 * N ≤ 10000000) (hg : g + 792 * N ≤ 10000000) (hN : N ≤ 2000) (hcw : 0 ≤ cw) (hcw2 : cw ≤ 99) (hlg : 0 ≤ lg) (hlg2 : lg ≤ 50) (hlr : lr < P 0 0) (h56 : F 373 56 = hi) {T : Nat → Int} (hT : ∀ t : Nat, T t = itS (tickA P (LwF C) cw jn lr lg) t s 9 15) (h : RQ b cw jn 0 P C s F A)
    (hq : ∀ F' A', RQ b cw jn N P C (itS (tickA P (LwF C) cw jn lr lg) N s) F' A' → F' 373 61 = min (cnN hi T N) 200 → PlR 405 406 407 (psN hi T N) A' → RX F A F' A' → Q vN F' A' R) : Wp X (k + 7) m_X11_course [vA 373, vI N, vI lr, vI lg] F A R Q := by
  refine Wp.of [vA 373, vI N, vI lr, vI lg, vN, vN, vN] rfl rfl rfl (b_X11_course_0 ?_)
  refine Wp.of (k := k + 5) [vA 373] rfl rfl rfl (b_X11_beginPlays_0 fun F1 h1 F2 h2 => ?_)
  have x1 : RX F A F2 A := ⟨fun _ _ => rfl, fun x f hx => by
    rw [h2, h1]
    by_cases e : x = 373
    · subst e; rw [st2_s, u1_n (by omega), st2_s, u1_n (by omega)]
    · rw [st2_n e, st2_n e]⟩
  have h' : RQ b cw jn 0 P C s F2 A := by
    obtain ⟨g1, g2, g3, g4, g5, g6⟩ := h
    refine ⟨g1.rx x1, ?_, ?_, ?_, ?_, ?_⟩
    · obtain ⟨k1, k2, k3, k4, k5, k6⟩ := g2
      refine ⟨k1, k2, k3, ?_, ?_, ?_⟩ <;> rw [h2, h1] <;> simp only [ne_eq, Int.add_right_inj, Int.reduceEq, not_false_eq_true, st2_n, st2_s, u1_s, u1_u1, u1_n] <;> assumption
    · rw [h2, h1]; simp only [ne_eq, Int.add_right_inj, Int.reduceEq, not_false_eq_true, st2_n, st2_s, u1_s, u1_u1, u1_n]; exact g3
    · rw [h2, h1]; simp only [ne_eq, Int.add_right_inj, Int.reduceEq, not_false_eq_true, st2_n, st2_s, u1_s, u1_u1, u1_n]; exact g4
    · rw [h2, h1]; simp only [ne_eq, Int.add_right_inj, Int.reduceEq, not_false_eq_true, st2_n, st2_s, u1_s, u1_u1, u1_n]; exact g5
    · rw [h2, h1]; simp only [ne_eq, Int.add_right_inj, Int.reduceEq, not_false_eq_true, st2_n, st2_s, u1_s, u1_u1, u1_n]; exact g6
  refine x_courseL (k := k) (F0 := F) (A0 := A) hR hP hI hK hc ha hg hN hcw hcw2 hlg hlg2 hlr h56 hT hq N 0 F2 A _ _ _ (by omega) x1 h' ⟨?_, ?_, fun i a b => by simp [psN] at b; omega⟩
  · rw [h2, h1]; simp only [ne_eq, Int.add_right_inj, Int.reduceEq, not_false_eq_true, st2_n, st2_s, u1_s, u1_u1, u1_n]; rfl
  · rw [h2]; simp only [ne_eq, Int.add_right_inj, Int.reduceEq, not_false_eq_true, st2_n, st2_s, u1_s, u1_u1]; rfl
