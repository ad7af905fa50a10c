/-! thread of the reference -/
/-- the warms of the shelves up to s and, of shelf s, of the seconds up to n -/
def WrI (σ : Sg) (s n : Nat) (j : Int) (A : Fn2) : Prop := ∀ i t : Nat, i < 4 → t < 200 → ∀ r, 0 ≤ r → r < 8 → (i < s ∨ i = s ∧ (t < n ∨ t = n ∧ r < j)) → A 420 (1600 * i + 8 * t + r) = wm σ i (t + 1) r
def RT (F A F' A' : Fn2) : Prop := (∀ a, a < 396 ∨ 407 < a ∧ a ≠ 420 ∨ a = 397 → A' a = A a) ∧ ∀ x f, x ≠ 373 ∨ f < 48 ∨ 54 < f ∧ f ≠ 61 ∧ f ≠ 62 ∧ f ≠ 57 ∧ f ≠ 80 ∧ f ≠ 81 ∧ f ≠ 82 → F' x f = F x f
theorem RT.refl {F A : Fn2} : RT F A F A := ⟨fun _ _ => rfl, fun _ _ _ => rfl⟩
theorem RT.trans {F A F1 A1 F2 A2 : Fn2} (h : RT F A F1 A1) (g : RT F1 A1 F2 A2) : RT F A F2 A2 :=
  ⟨fun a h1 => (g.1 a h1).trans (h.1 a h1), fun x f h1 => (g.2 x f h1).trans (h.2 x f h1)⟩
theorem RT.rf {F A F' A' : Fn2} (h : RT F A F' A') : RF F A F' A' := ⟨fun a h1 => h.1 a (by omega), fun f h1 => h.2 373 f (by omega), fun a h1 => funext fun f => h.2 a f (Or.inl h1)⟩
theorem RX.t {F A F' A' : Fn2} (h : RX F A F' A') : RT F A F' A' := ⟨fun a h1 => h.1 a (by omega), fun x f h1 => h.2 x f (by omega)⟩
theorem RQ.r420 {b cw jn t : Int} {P z F A A' : Fn2} {C : Nat → Option (List Int)} (h : RQ b cw jn t P C z F A) (x : ∀ a, a ≠ 420 → A' a = A a) : RQ b cw jn t P C z F A' := by
  obtain ⟨⟨m1, m2, m3, m4, m5, m6, m7, m8⟩, ⟨k1, k2, k3, k4⟩, g3⟩ := h
  have z : ∀ i c, XL1 A i c → XL1 A' i c := fun i c hc => hc.of (x _ (by omega)) (x _ (by omega)) (x _ (by omega)) (x _ (by omega)) (x _ (by omega))
  refine ⟨⟨m1, m2, m3, ?_, m5, z _ _ m6, z _ _ m7, z _ _ m8⟩, ⟨?_, ?_, ?_, k4⟩, g3⟩
  · rw [RPm_st (A := A) (A' := A') (fun a h1 h2 => x a (by omega))]; exact m4
  · rw [x _ (by decide)]; exact k1
  · rw [x _ (by decide)]; exact k2
  · rw [x _ (by decide)]; exact k3
/-- a second's warms are written down -/
theorem r_warmsL {X : Int × (Int → Int)} {k : Nat} {Q : Vv → Fn2 → Fn2 → Fn2 → Prop} {R : Fn2} {σ : Sg} {sh b cw : Int} {P' z F A0 : Fn2} {C : Nat → Option (List Int)} {s n : Nat} {w5 w6 : Vv} (hR : RS R) (hS : SgI σ) (hs : s < 4) (hn : n < 200) (hrq : RQ b cw 1 ((n : Int) + 1) P' C z F A0) (hP' : WFP P') (hz : ∀ r, 0 ≤ r → r < 8 → zz σ s (n + 1) 0 r = z 0 r ∧ zz σ s (n + 1) 1 r = z 1 r) (h0 : ∀ r, P' 0 0 ≤ r → r < 8 → z 0 r = 0) (hq : ∀ A', WrI σ s (n + 1) 0 A' → (∀ a, a ≠ 420 → A' a = A0 a) → G X (k + 6) m_X11_seekThread Q 14 [vA 373, vI sh, vI s, vI ((n : Int) + 1), vI 8, w5, w6] [] F A' R) : ∀ (m : Nat) (j : Int) (A : Fn2), 0 ≤ j → j + m = 8 → WrI σ s n j A → (∀ a, a ≠ 420 → A a = A0 a) → G X (k + 6) m_X11_seekThread Q 28 [vA 373, vI sh, vI s, vI n, vI j, w5, w6] [] F A R
  | 0, j, A, hj, hm, hw, ho => by
    have e : j = 8 := by omega
    subst e
    refine b_X11_seekThread_28 hR ⟨fun _ => ⟨by omega, hq A (fun i t hi ht r r0 r8 h => hw i t hi ht r r0 r8 (by omega)) ho⟩, fun h => absurd h (by decide)⟩
  | m + 1, j, A, hj, hm, hw, ho => by
    have h49 : F 373 49 = P' 0 0 := hrq.1.2.2.2.2.1
    have e398 : A 398 = z 0 := by rw [ho _ (by decide)]; exact hrq.2.1.1
    have e399 : A 399 = z 1 := by rw [ho _ (by decide)]; exact hrq.2.1.2.1
    have hzj := hz j hj (by omega)
    have hzw := zz_w hS hs (n + 1) hj (show j < 8 by omega)
    have nx : ∀ A1 v, A1 = st2 A 420 (1600 * (s : Int) + 8 * (n : Int) + j) v → v = wm σ s (n + 1) j → G X (k + 6) m_X11_seekThread Q 28 [vA 373, vI sh, vI s, vI n, vI (j + 1), w5, w6] [] F A1 R := by
      intro A1 v hA1 hv
      refine r_warmsL hR hS hs hn hrq hP' hz h0 hq m (j + 1) A1 (by omega) (by omega) (fun i t hi ht r r0 r8 h => ?_) (fun a ha => by rw [hA1, st2_n ha]; exact ho a ha)
      rw [hA1, st2_s]
      by_cases e : i = s ∧ t = n ∧ r = j
      · obtain ⟨e1, e2, e3⟩ := e
        subst e1; subst e2; subst e3
        rw [u1_s]; exact hv
      · rw [u1_n (by omega)]
        exact hw i t hi ht r r0 r8 (by omega)
    refine b_X11_seekThread_28 hR ?_
    rw [h49, e398, e399]
    refine ⟨fun h => by omega, fun _ => ⟨by omega, by omega, by omega, by omega, fun h => ⟨by omega, by omega, fun A1 hA1 => ⟨by omega, nx A1 _ hA1 ?_⟩⟩, fun h => ⟨hj, by omega, ?_⟩⟩⟩
    · unfold wm wmf
      rw [hzj.1, h0 j (by omega) (by omega), if_neg (by decide)]
    · rw [← hzj.1, ← hzj.2]
      refine x_warm (k := k + 5) hzw.1 hzw.2.2 (b_X11_seekThread_78 (by decide +kernel) (show Y1.2.1 420 = 6400 by decide +kernel) ⟨by omega, by omega, fun A1 hA1 => ⟨by omega, nx A1 _ hA1 rfl⟩⟩)
theorem r_thrA {X : Int × (Int → Int)} {k : Nat} {Q : Vv → Fn2 → Fn2 → Fn2 → Prop} {R : Fn2} {σ : Sg} {b : Int → Int} {sh : Int} {s : Nat} {z0 F0 A0 : Fn2} {w4' w5 w6 : Vv} (hR : RS R) (hS : SgI σ) (hX : XI σ b F0 A0) (hs : s < 4) (hsq : SEq True True (RPm (b s) A0) z0 (zeroS (RPm (b s) A0 5))) (hI : Iv (RPm (b s) A0) 0 0 0 0 0 z0) (hq : ∀ F' A' w3 w4, WrI σ (s + 1) 0 0 A' → RT F0 A0 F' A' → G X (k + 6) m_X11_seekThread Q 2 [vA 373, vI sh, vI ((s : Int) + 1), w3, w4, w5, w6] [] F' A' R) : ∀ (m n : Nat) (F A : Fn2) (w4 : Vv), n + m = 200 → RT F0 A0 F A → RQ (b s) (σ.1 0 1) 1 n (RPm (b s) A0) σ.2.2 (itS (tickA (RPm (b s) A0) (LwF σ.2.2) (σ.1 0 1) 1 (-1) 0) n z0) F A → WrI σ s n 0 A → G X (k + 6) m_X11_seekThread Q 14 [vA 373, vI sh, vI s, vI n, w4, w5, w6] [] F A R
  | 0, n, F, A, w4, hm, hX1, hrq, hw => by
    have e : n = 200 := by omega
    subst e
    exact b_X11_seekThread_14 ⟨fun _ => ⟨by omega, hq F A _ _ (fun i t hi ht r r0 r8 h => hw i t hi ht r r0 r8 (by omega)) hX1⟩, fun h => absurd h (by decide)⟩
  | m + 1, n, F, A, w4, hm, hX1, hrq, hw => by
    have hP' := (hX.2.2.1 s hs).2.2
    have he := (hX.2.2.1 s hs).2.1
    have hP := hS.2.2.2.2.2.2.1 s hs
    have hIt := iv_it (jn := 1) (lr := -1) (lg := 0) hP' (LwF_ok (C := σ.2.2)) hS.2.1.1 hS.2.1.2 (by omega) (hI.mono (K' := 0) (t' := 1920) (c' := 0) (a' := 0) (g' := 0) (by omega) (by omega) (by omega) (by omega) (by omega))
    refine b_X11_seekThread_14 ⟨fun h => by omega, fun _ => ?_⟩
    refine x_sec (k := k) hR hP' (hIt n) (by omega) (by omega) (by omega) (by omega) hS.2.1.1 hS.2.1.2 (by omega) (by omega) hrq fun F1 A1 y1 y2 y3 y4 y5 => b_X11_seekThread_25 ?_
    have e : tick0 (RPm (b s) A0) (LwF σ.2.2) (σ.1 0 1) 1 (itS (tickA (RPm (b s) A0) (LwF σ.2.2) (σ.1 0 1) 1 (-1) 0) n z0) = itS (tickA (RPm (b s) A0) (LwF σ.2.2) (σ.1 0 1) 1 (-1) 0) (n + 1) z0 := (tick_led0 (by omega)).symm
    rw [e] at y1
    have hzz := r_it (w := σ.2.1 s 5) (jn := 1) (lr := -1) (lg := 0) hS hX hs hsq (fun r a b => (he.2.2.1 r a b).2.2.2.1) (n + 1)
    refine r_warmsL (k := k) hR hS hs (by omega) y1 hP' (fun r a b => hzz.1 r a b) (fun r a b => ?_) (fun A' v1 v2 => ?_) 8 0 A1 (by omega) (by omega) (fun i t hi ht r r0 r8 h => ?_) (fun _ _ => rfl)
    · exact (((hIt (n + 1)).1.1 r (by have := hP'.1; omega) b).2.2.2 a).1
    · have x2 : RT F0 A0 F1 A' := (hX1.trans y2.t).trans ⟨fun a ha => v2 a (by omega), fun _ _ _ => rfl⟩
      have := r_thrA (w4' := w4') hR hS hX hs hsq hI hq m (n + 1) F1 A' (vI 8) (by omega) x2 (y1.r420 v2) v1
      exact this
    · rw [y2.1 420 (by omega)]; exact hw i t hi ht r r0 r8 h
theorem r_newL {X : Int × (Int → Int)} {k : Nat} {Q : Vv → Fn2 → Fn2 → Fn2 → Prop} {R : Fn2} {σ : Sg} {sh x3 : Int} {kk i : Nat} {F A : Fn2} (hR : RS R) (hS : SgI σ) (hsh : 0 ≤ sh ∧ sh ≤ 15) (hk : kk < 1600) (hi : i < 4) (hw : WrI σ 4 0 0 A) (h3 : 0 ≤ x3 ∧ x3 ≤ 3) (hq : ∀ w x6, nwS σ sh (kk / 8 + 1) (kk % 8 : Nat) i → G X k m_X11_seekThread Q 130 [vA 373, vI sh, vI kk, vI (x3 + 1), vI ((i : Int) + 1), vI w, vI x6] [] F A R) (hq' : ∀ w x6, ¬ nwS σ sh (kk / 8 + 1) (kk % 8 : Nat) i → G X k m_X11_seekThread Q 130 [vA 373, vI sh, vI kk, vI x3, vI ((i : Int) + 1), vI w, vI x6] [] F A R) : ∀ (m o : Nat) (w : Int), o + m = i → (w = 0 ∨ w = 1) → (w = 1 ↔ inS sh i ∧ ∀ y : Nat, y < o → inS sh y → wm σ y (kk / 8 + 1) (kk % 8 : Nat) ≠ wm σ i (kk / 8 + 1) (kk % 8 : Nat)) → G X k m_X11_seekThread Q 156 [vA 373, vI sh, vI kk, vI x3, vI i, vI w, vI o] [] F A R
  | 0, o, w, hm, hw0, he => by
    have e : o = i := by omega
    subst e
    refine b_X11_seekThread_156 hR ⟨fun _ => ⟨fun hz => ⟨by omega, fun g hg => ⟨by omega, ?_⟩⟩, fun hz => ⟨by omega, fun g hg => ⟨by omega, ?_⟩⟩⟩, fun h => absurd h (by omega)⟩
    · rw [hg, Int.add_zero]; exact hq' _ _ fun h => by have := he.2 h; omega
    · rw [hg]; exact hq _ _ (he.1 (by omega))
  | m + 1, o, w, hm, hw0, he => by
    have nx : ∀ w', (w' = 0 ∨ w' = 1) → (w' = 1 ↔ w = 1 ∧ (inS sh o → wm σ o (kk / 8 + 1) (kk % 8 : Nat) ≠ wm σ i (kk / 8 + 1) (kk % 8 : Nat))) → G X k m_X11_seekThread Q 156 [vA 373, vI sh, vI kk, vI x3, vI i, vI w', vI ((o : Int) + 1)] [] F A R := by
      intro w' hw' he'
      have := r_newL (X := X) (k := k) hR hS hsh hk hi hw h3 hq hq' m (o + 1) w' (by omega) hw' (by
        rw [he', he]
        constructor
        · rintro ⟨⟨a, a2⟩, h⟩
          refine ⟨a, fun y hy hin => ?_⟩
          by_cases e : y = o
          · subst e; exact h hin
          · exact a2 y (by omega) hin
        · rintro ⟨a, h⟩
          exact ⟨⟨a, fun y hy => h y (by omega)⟩, h o (by omega)⟩)
      exact this
    have e1 : (1600 * (o : Int)) + kk = 1600 * (o : Int) + 8 * ((kk / 8 : Nat) : Int) + ((kk % 8 : Nat) : Int) := by omega
    have e2 : (1600 * (i : Int)) + kk = 1600 * (i : Int) + 8 * ((kk / 8 : Nat) : Int) + ((kk % 8 : Nat) : Int) := by omega
    have v1 := hw o (kk / 8) (by omega) (by omega) (kk % 8 : Nat) (by omega) (by omega) (Or.inl (by omega))
    have v2 := hw i (kk / 8) (by omega) (by omega) (kk % 8 : Nat) (by omega) (by omega) (Or.inl (by omega))
    refine b_X11_seekThread_156 hR ⟨fun h => by omega, fun _ => ⟨fun hz => ⟨by omega, nx 0 (Or.inl rfl) (by constructor <;> intro h <;> omega)⟩, fun hz => ⟨fun hb => ⟨by omega, nx 1 (Or.inr rfl) ⟨fun _ => ⟨by omega, fun h => absurd hb h⟩, fun _ => rfl⟩⟩, fun hb => ⟨by omega, by omega, by omega, by omega, by omega, by omega, by omega, by omega, ?_⟩⟩⟩⟩
    rw [e1, e2, v1, v2]
    refine ⟨fun h => ⟨by omega, nx 0 (Or.inl rfl) ?_⟩, fun h => ⟨by omega, nx 1 (Or.inr rfl) ⟨fun _ => ⟨by omega, fun _ => h⟩, fun _ => rfl⟩⟩⟩
    constructor
    · intro h'; omega
    · rintro ⟨_, h'⟩; exact absurd h (h' hb)
theorem r_cntL2 {X : Int × (Int → Int)} {k : Nat} {Q : Vv → Fn2 → Fn2 → Fn2 → Prop} {R : Fn2} {σ : Sg} {sh : Int} {kk : Nat} {F A : Fn2} (hR : RS R) (hS : SgI σ) (hsh : 0 ≤ sh ∧ sh ≤ 15) (hk : kk < 1600) (hw : WrI σ 4 0 0 A) (hq : ∀ w5 w6, G X k m_X11_seekThread Q 130 [vA 373, vI sh, vI kk, vI (cntW σ sh (kk / 8 + 1) (kk % 8 : Nat) 4), vI 4, w5, w6] [] F A R) : ∀ (m i : Nat) (w5 w6 : Vv), i + m = 4 → G X k m_X11_seekThread Q 130 [vA 373, vI sh, vI kk, vI (cntW σ sh (kk / 8 + 1) (kk % 8 : Nat) i), vI i, w5, w6] [] F A R
  | 0, i, w5, w6, hm => by
    have e : i = 4 := by omega
    subst e
    exact hq w5 w6
  | m + 1, i, w5, w6, hm => by
    have hi : i < 4 := by omega
    have hb := cntW_b (σ := σ) (sh := sh) (t := kk / 8 + 1) (r := (kk % 8 : Nat)) i
    have main : ∀ w, (w = 0 ∨ w = 1) → (w = 1 ↔ inS sh i) → G X k m_X11_seekThread Q 156 [vA 373, vI sh, vI kk, vI (cntW σ sh (kk / 8 + 1) (kk % 8 : Nat) i), vI i, vI w, vI 0] [] F A R := by
      intro w hw0 he
      refine r_newL (X := X) (k := k) hR hS hsh hk hi hw (by omega) (fun w x6 h => ?_) (fun w x6 h => ?_) i 0 w (by omega) hw0 (by
        rw [he]
        exact ⟨fun h => ⟨h, fun y hy => by omega⟩, fun h => h.1⟩)
      · have := r_cntL2 (X := X) (k := k) hR hS hsh hk hw hq m (i + 1) (vI w) (vI x6) (by omega)
        rw [cntW_p h] at this
        exact this
      · have := r_cntL2 (X := X) (k := k) hR hS hsh hk hw hq m (i + 1) (vI w) (vI x6) (by omega)
        rw [cntW_n h] at this
        exact this
    refine b_X11_seekThread_130 ⟨fun h => by omega, fun _ => ⟨fun h => main 0 (Or.inl rfl) ?_, fun h => main 1 (Or.inr rfl) ?_⟩⟩
    · rw [inS_1 hsh.1 hsh.2 hi]
      exact ⟨fun h' => by omega, fun h' => absurd h' h⟩
    · rw [inS_1 hsh.1 hsh.2 hi]
      exact ⟨fun _ => h, fun _ => rfl⟩
theorem r_tabL {X : Int × (Int → Int)} {k : Nat} {Q : Vv → Fn2 → Fn2 → Fn2 → Prop} {R : Fn2} {σ : Sg} {sh : Int} {F0 A : Fn2} (hR : RS R) (hS : SgI σ) (hsh : 0 ≤ sh ∧ sh ≤ 15) (hw : WrI σ 4 0 0 A) (hq : ∀ F', F' 373 82 = (tbN σ sh 1600).1 → F' 373 81 = (tbN σ sh 1600).2.1 → F' 373 80 = (tbN σ sh 1600).2.2 → (∀ x f, x ≠ 373 ∨ f < 80 ∨ 82 < f → F' x f = F0 x f) → Q vN F' A R) : ∀ (m kk : Nat) (F : Fn2) (w3 w4 w5 w6 : Vv), kk + m = 1600 → F 373 82 = (tbN σ sh kk).1 → F 373 81 = (tbN σ sh kk).2.1 → F 373 80 = (tbN σ sh kk).2.2 → (∀ x f, x ≠ 373 ∨ f < 80 ∨ 82 < f → F x f = F0 x f) → G X k m_X11_seekThread Q 118 [vA 373, vI sh, vI kk, w3, w4, w5, w6] [] F A R
  | 0, kk, F, w3, w4, w5, w6, hm, h1, h2, h3, h4 => by
    have e : kk = 1600 := by omega
    subst e
    exact b_X11_seekThread_118 ⟨fun _ => hq F h1 h2 h3 h4, fun h => absurd h (by decide)⟩
  | m + 1, kk, F, w3, w4, w5, w6, hm, h1, h2, h3, h4 => by
    have unf : tbN σ sh (kk + 1) = if (tbN σ sh kk).1 < cntW σ sh (kk / 8 + 1) (kk % 8 : Nat) 4 then (cntW σ sh (kk / 8 + 1) (kk % 8 : Nat) 4, ((kk / 8 + 1 : Nat) : Int), ((kk % 8 : Nat) : Int)) else tbN σ sh kk := rfl
    refine b_X11_seekThread_118 ⟨fun h => by omega, fun _ => r_cntL2 (X := X) (k := k) (kk := kk) hR hS hsh (by omega) hw (fun w5 w6 => ?_) 4 0 w5 w6 (by omega)⟩
    refine b_X11_seekThread_130 ⟨fun _ => ?_, fun h => absurd h (by decide)⟩
    rw [h1]
    refine ⟨fun hlt F1 hF1 => ⟨by omega, fun F2 hF2 => ⟨by omega, fun F3 hF3 => ⟨by omega, ?_⟩⟩⟩, fun hge => ⟨by omega, ?_⟩⟩
    · rw [if_pos hlt] at unf
      have := r_tabL (X := X) (k := k) hR hS hsh hw hq m (kk + 1) F3 (vI (cntW σ sh (kk / 8 + 1) (kk % 8 : Nat) 4)) (vI 4) w5 w6 (by omega) (by
        rw [unf, hF3, hF2, hF1]; simp only [ne_eq, Int.add_right_inj, Int.reduceEq, not_false_eq_true, st2_n, st2_s, u1_s, u1_u1, u1_n]) (by
        rw [unf, hF3]; simp only [ne_eq, Int.add_right_inj, Int.reduceEq, not_false_eq_true, st2_n, st2_s, u1_s, u1_u1]; omega) (by
        rw [unf, hF3, hF2]; simp only [ne_eq, Int.add_right_inj, Int.reduceEq, not_false_eq_true, st2_n, st2_s, u1_s, u1_u1, u1_n]; omega) (fun x f hx => by
        rw [hF3, hF2, hF1]
        by_cases e : x = 373
        · subst e; rw [st2_s, u1_n (by omega), st2_s, u1_n (by omega), st2_s, u1_n (by omega)]; exact h4 _ f hx
        · rw [st2_n e, st2_n e, st2_n e]; exact h4 x f hx)
      exact this
    · rw [if_neg hge] at unf
      have := r_tabL (X := X) (k := k) hR hS hsh hw hq m (kk + 1) F (vI (cntW σ sh (kk / 8 + 1) (kk % 8 : Nat) 4)) (vI 4) w5 w6 (by omega) (by rw [unf]; exact h1) (by rw [unf]; exact h2) (by rw [unf]; exact h3) h4
      exact this
theorem r_thrS {X : Int × (Int → Int)} {k : Nat} {Q : Vv → Fn2 → Fn2 → Fn2 → Prop} {R : Fn2} {σ : Sg} {b : Int → Int} {sh : Int} {F0 A0 : Fn2} (hR : RS R) (hS : SgI σ) (hsh : 0 ≤ sh ∧ sh ≤ 15) (hX0 : XI σ b F0 A0) (hq : ∀ F' A', RT F0 A0 F' A' → F' 373 82 = (tbN σ sh 1600).1 → F' 373 81 = (tbN σ sh 1600).2.1 → F' 373 80 = (tbN σ sh 1600).2.2 → Q vN F' A' R) : ∀ (m s : Nat) (F A : Fn2) (w3 w4 w5 w6 : Vv), s + m = 4 → RT F0 A0 F A → WrI σ s 0 0 A → G X (k + 6) m_X11_seekThread Q 2 [vA 373, vI sh, vI s, w3, w4, w5, w6] [] F A R
  | 0, s, F, A, w3, w4, w5, w6, hm, hX, hw => by
    have e : s = 4 := by omega
    subst e
    refine b_X11_seekThread_2 ⟨fun _ F1 hF1 F2 hF2 F3 hF3 => ?_, fun h => absurd h (by decide)⟩
    have := r_tabL (X := X) (k := k + 6) (F0 := F3) (Q := Q) (R := R) hR hS hsh hw (fun F' v1 v2 v3 v4 => hq F' A ⟨hX.1, fun x f hx => by
      rw [v4 x f (by omega), hF3, hF2, hF1]
      by_cases e : x = 373
      · subst e; rw [st2_s, u1_n (by omega), st2_s, u1_n (by omega), st2_s, u1_n (by omega)]; exact hX.2 _ f hx
      · rw [st2_n e, st2_n e, st2_n e]; exact hX.2 x f hx⟩ v1 v2 v3) 1600 0 F3 w3 w4 w5 w6 (by omega) (by rw [hF3, hF2, hF1]; simp only [ne_eq, Int.add_right_inj, Int.reduceEq, not_false_eq_true, st2_n, st2_s, u1_s, u1_u1, u1_n]; rfl) (by rw [hF3]; simp only [ne_eq, Int.add_right_inj, Int.reduceEq, not_false_eq_true, st2_n, st2_s, u1_s, u1_u1]; rfl) (by rw [hF3, hF2]; simp only [ne_eq, Int.add_right_inj, Int.reduceEq, not_false_eq_true, st2_n, st2_s, u1_s, u1_u1, u1_n]; rfl) (fun _ _ _ => rfl)
    exact this
  | m + 1, s, F, A, w3, w4, w5, w6, hm, hX, hw => by
    have hs : s < 4 := by omega
    have hX1 := hX0.rf hX.rf
    refine b_X11_seekThread_2 ⟨fun h => by omega, fun _ => ?_⟩
    refine x_beginX (k := k + 5) hR hX1 hs fun F1 A1 z x1 hX2 hrq hz hI h56 h57 hw' hf hA => b_X11_seekThread_12 ?_
    have e1 : RPm (b s) A1 = RPm (b s) A := RPm_st fun a h1 h2 => x1.1 a (by omega)
    rw [← e1] at hrq hz hI
    have xb : RT F A F1 A1 := ⟨fun a ha => hA a (by omega), fun x f hx => ?_⟩
    · refine r_thrA (X := X) (k := k) (F0 := F1) (A0 := A1) (w4' := w4) hR hS hX2 hs hz hI (fun F' A' w3 w4 v1 v2 => ?_) 200 0 F1 A1 w4 (by omega) RT.refl hrq (fun i t hi ht r r0 r8 h => ?_)
      · exact r_thrS hR hS hsh hX0 hq m (s + 1) F' A' w3 w4 w5 w6 (by omega) ((hX.trans xb).trans v2) v1
      · rw [hA 420 (by omega)]; exact hw i t hi ht r r0 r8 h
    · by_cases e : x = 373
      · subst e
        exact hf f (by omega)
      · exact congrFun (x1.2.2 x e) f
theorem r_thread {X : Int × (Int → Int)} {k : Nat} {Q : Vv → Fn2 → Fn2 → Fn2 → Prop} {F A R : Fn2} {σ : Sg} {b : Int → Int} {sh w : Int} (hR : RS R) (hS : SgI σ) (hX : XI σ b F A) (hq : ∀ F' A', XI σ b F' A' → RF F A F' A' → Q (vI (ansThread σ sh w)) F' A' R) : Wp X (k + 8) m_X11_thread [vA 373, vI sh, vI w] F A R Q := by
  have no : ¬ ((0 ≤ sh ∧ sh ≤ 15) ∧ 0 ≤ w ∧ w ≤ 2) → Q (vI (-1)) F A R := by
    intro h
    have := hq F A hX RF.refl
    unfold ansThread at this; rwa [if_neg h] at this
  refine Wp.of [vA 373, vI sh, vI w] rfl rfl rfl (b_X11_thread_0 (x_isIn (k := k + 6) (fun h0 h15 => ?_) (fun h => b_X11_thread_7 ⟨fun _ => no (fun h' => h h'.1), fun h => absurd rfl h⟩)))
  refine b_X11_thread_7 ⟨fun h => absurd h (by decide), fun _ => x_isIn (k := k + 6) (fun w0 w2 => ?_) (fun h => b_X11_thread_16 ⟨fun h => absurd rfl h, fun _ => no (fun h' => h h'.2)⟩)⟩
  refine b_X11_thread_16 ⟨fun _ => ?_, fun h => absurd h (by decide)⟩
  refine Wp.of (k := k + 6) [vA 373, vI sh, vN, vN, vN, vN, vN] rfl rfl rfl (b_X11_seekThread_0 ?_)
  refine r_thrS (X := X) (k := k) (F0 := F) (A0 := A) hR hS ⟨h0, h15⟩ hX (fun F' A' v1 v2 v3 v4 => b_X11_thread_26 ?_) 4 0 F A vN vN vN vN rfl RT.refl (fun i t hi ht r r0 r8 h => by omega)
  have hv := hq F' A' (hX.rf v1.rf) v1.rf
  have hb := tbN_b (σ := σ) (sh := sh) 1600
  unfold ansThread at hv
  rw [if_pos ⟨⟨h0, h15⟩, w0, w2⟩] at hv
  rw [v2, v3, v4]
  refine ⟨fun h => ⟨fun h1 => ⟨fun h2 => ?_, fun h2 => ?_⟩, fun h1 => ?_⟩, fun h => ?_⟩
  · rwa [if_neg (by omega), if_pos (by omega)] at hv
  · rwa [if_neg (by omega), if_neg (by omega), if_neg h1] at hv
  · rwa [if_neg (by omega), if_neg (by omega), if_pos h1] at hv
  · rwa [if_pos (by omega)] at hv
