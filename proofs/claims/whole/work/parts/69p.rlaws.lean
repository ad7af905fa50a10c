/-! THE CALL laws, the reference, 2 -/
theorem x_cpL {X : Int × (Int → Int)} {k : Nat} {Q : Vv → Fn2 → Fn2 → Fn2 → Prop} {R : Fn2} {F A0 : Fn2} (hR : RS R) (h01 : ∀ i : Int, 0 ≤ i → i < 3 → 0 ≤ A0 397 (3 + i) ∧ A0 397 (3 + i) ≤ 1) (hq : ∀ A', (∀ a, a ≠ 390 → a ≠ 391 → a ≠ 397 → A' a = A0 a) → (∀ i : Int, 0 ≤ i → i < 3 → A' 397 i = A0 397 (3 + i) ∧ A' 390 i = A0 390 (3 + i) ∧ A' 391 i = A0 391 (3 + i)) → G X k m_X11_laws Q 145 [vA 373, vI 0] [] F A' R) : ∀ (m i : Nat) (A : Fn2), i + m = 3 → (∀ a, a ≠ 390 → a ≠ 391 → a ≠ 397 → A a = A0 a) → (∀ j : Int, 0 ≤ j → j < i → A 397 j = A0 397 (3 + j) ∧ A 390 j = A0 390 (3 + j) ∧ A 391 j = A0 391 (3 + j)) → (∀ j : Int, 3 ≤ j → A 397 j = A0 397 j ∧ A 390 j = A0 390 j ∧ A 391 j = A0 391 j) → G X k m_X11_laws Q 90 [vA 373, vI i] [] F A R := by
  intro m
  induction m with
  | zero =>
    intro i A hi h1 h2 h3
    exact b_X11_laws_90 hR ⟨fun _ => hq A h1 (fun j a b => h2 j a (by omega)), fun h => absurd h (by omega)⟩
  | succ m ih =>
    intro i A hi h1 h2 h3
    have e := h3 (3 + (i : Int)) (by omega)
    have b := h01 i (by omega) (by omega)
    refine b_X11_laws_90 hR ⟨fun h => absurd (show (i : Int) < 3 by omega) h, fun _ => ⟨by omega, by omega, by omega, by omega, by omega, by rw [e.1]; exact b.1, by rw [e.1]; exact b.2, fun A1 hA1 A2 hA2 A3 hA3 => ⟨by omega, ?_⟩⟩⟩
    have e391 : A2 391 = A 391 := by rw [hA2, st2_n (by decide), hA1, st2_n (by decide)]
    have e390 : A1 390 = A 390 := by rw [hA1, st2_n (by decide)]
    rw [e391, e.2.2] at hA3
    rw [e390, e.2.1] at hA2
    rw [e.1] at hA1
    have f397 : A3 397 = u1 (A 397) i (A0 397 (3 + i)) := by rw [hA3, st2_n (by decide), hA2, st2_n (by decide), hA1, st2_s]
    have f390 : A3 390 = u1 (A 390) i (A0 390 (3 + i)) := by rw [hA3, st2_n (by decide), hA2, st2_s, e390]
    have f391 : A3 391 = u1 (A 391) i (A0 391 (3 + i)) := by rw [hA3, st2_s, e391]
    refine ih (i + 1) A3 (by omega) (fun a x y z => by rw [hA3, st2_n y, hA2, st2_n x, hA1, st2_n z]; exact h1 a x y z) (fun j j0 j1 => ?_) (fun j j3 => ?_)
    · rw [f397, f390, f391]
      by_cases ej : j = i
      · subst ej; rw [u1_s, u1_s, u1_s]; exact ⟨rfl, rfl, rfl⟩
      · rw [u1_n ej, u1_n ej, u1_n ej]; exact h2 j j0 (by omega)
    · rw [f397, f390, f391, u1_n (by omega), u1_n (by omega), u1_n (by omega)]; exact h3 j j3
theorem x_cpC {X : Int × (Int → Int)} {k : Nat} {Q : Vv → Fn2 → Fn2 → Fn2 → Prop} {R : Fn2} {F A0 : Fn2} {n : Nat} (hR : RS R) (h37 : F 373 37 = n) (hn : n ≤ 500) (hq : ∀ F' A', F' = st2 F 373 35 (F 373 36) → (∀ a, a ≠ 392 → a ≠ 393 → A' a = A0 a) → (∀ i : Int, 0 ≤ i → i < n → A' 392 i = A0 392 (500 + i) ∧ A' 393 i = A0 393 (500 + i)) → Q (vI (F 373 36)) F' A' R) : ∀ (m i : Nat) (A : Fn2), i + m = n → (∀ a, a ≠ 392 → a ≠ 393 → A a = A0 a) → (∀ j : Int, 0 ≤ j → j < i → A 392 j = A0 392 (500 + j) ∧ A 393 j = A0 393 (500 + j)) → (∀ j : Int, 500 ≤ j → A 392 j = A0 392 j ∧ A 393 j = A0 393 j) → G X k m_X11_laws Q 145 [vA 373, vI i] [] F A R := by
  intro m
  induction m with
  | zero =>
    intro i A hi h1 h2 h3
    refine b_X11_laws_145 hR ⟨fun _ F1 hF1 => ?_, fun h => absurd h (by rw [h37]; omega)⟩
    have := hq F1 A hF1 h1 (fun j a b => h2 j a (by omega))
    rw [hF1, st2_s, u1_s]
    rw [hF1] at this; exact this
  | succ m ih =>
    intro i A hi h1 h2 h3
    have e := h3 (500 + (i : Int)) (by omega)
    refine b_X11_laws_145 hR ⟨fun h => absurd (show (i : Int) < F 373 37 by rw [h37]; omega) h, fun _ => ⟨by omega, by omega, by omega, by omega, by omega, fun A2 hA2 A3 hA3 => ⟨by omega, ?_⟩⟩⟩
    have e393 : A2 393 = A 393 := by rw [hA2, st2_n (by decide)]
    rw [e393, e.2] at hA3
    rw [e.1] at hA2
    have f392 : A3 392 = u1 (A 392) i (A0 392 (500 + i)) := by rw [hA3, st2_n (by decide), hA2, st2_s]
    have f393 : A3 393 = u1 (A 393) i (A0 393 (500 + i)) := by rw [hA3, st2_s, e393]
    refine ih (i + 1) A3 (by omega) (fun a x y => by rw [hA3, st2_n y, hA2, st2_n x]; exact h1 a x y) (fun j j0 j1 => ?_) (fun j j3 => ?_)
    · rw [f392, f393]
      by_cases ej : j = i
      · subst ej; rw [u1_s, u1_s]; exact ⟨rfl, rfl⟩
      · rw [u1_n ej, u1_n ej]; exact h2 j j0 (by omega)
    · rw [f392, f393, u1_n (by omega), u1_n (by omega)]; exact h3 j j3
theorem Sgm.rcr {cs c : List Int} {st : Int} {f g : Int → Int} (h : Sgm cs st c) (hc : RCR f g 0 cs) : RCR f g st c := by
  obtain ⟨a, b, e, w⟩ := h
  rw [e, rcr_app, rcr_app] at hc
  have := hc.2.1
  rwa [show (0 : Int) + (a.length : Int) = st by omega] at this
theorem Sgm.len {cs c : List Int} {st : Int} (h : Sgm cs st c) : 0 ≤ st ∧ st + c.length ≤ cs.length := by
  obtain ⟨a, b, e, w⟩ := h
  have ll := congrArg List.length e
  rw [List.length_append, List.length_append] at ll
  omega
/-- the reading of the lines -/
theorem x_linesT {X : Int × (Int → Int)} {k : Nat} {Q : Vv → Fn2 → Fn2 → Fn2 → Prop} {R : Fn2} {g : Int → Int} {n : Int} {rs : LT → Prop} {F0 A0 : Fn2} (hn : n ≤ 300) (hR : RS R)
    (hq1 : ∀ F' A' C cs u j, rs (okT C j) → F' 373 4 = 0 → F' 373 5 = -1 → XLn C cs u j F' A' → (cs.length : Int) ≤ 300 → 0 ≤ j → j ≤ 4 → XF2 F0 A0 F' A' → G X (k + 8) m_X11_laws Q 90 [vA 373, vI 0] [] F' A' R)
    (hq0 : ∀ F' A', rs (flT (F' 373 4) (F' 373 5)) → 0 < F' 373 4 → XF2 F0 A0 F' A' → Q (vI (-1)) F' A' R) : ∀ (m : Nat) (F A : Fn2) (C : Cd) (cs : List Int) (u j p : Int), TxX g n A R → 0 ≤ p → p ≤ n → TkX g n p F → F 373 4 = 0 → F 373 5 = -1 → XLn C cs u j F A → j = cntC C → j + m = 4 → 0 ≤ u → u ≤ 40 → (cs.length : Int) ≤ p → XF2 F0 A0 F A → (∀ r, pLw g n m C cs u j p r → rs r) → G X (k + 8) m_X11_laws Q 58 [vA 373, vI 3] [] F A R := by
  intro m
  induction m with
  | zero =>
    intro F A C cs u j p ht hp hpn hk h4 h5 hL hj hm
    have := cntC_b C
    omega
  | succ m ih =>
    intro F A C cs u j p ht hp hpn hk h4 h5 hL hj hm hu hu4 hcp hF hr
    have cb := cntC_b C
    refine b_X11_laws_58 (x_good (k := k + 7) (fun _ => b_X11_laws_62 ⟨fun z => absurd z (by decide), fun _ => ?_⟩) (fun z => absurd h4 z))
    rw [hk.2.2.2.1, tT_0]
    refine ⟨fun e20 => x_good (k := k + 7) (fun _ => b_X11_laws_83 ⟨fun _ => ?_, fun z => absurd z (by decide)⟩) (fun z => absurd h4 z), fun n20 => ?_⟩
    · exact hq1 F A C cs u j (hr _ ⟨fun _ => rfl, fun z => absurd e20 z, fun z => by have := z.1; have := z.2.1; omega⟩) h4 h5 hL (by omega) (by omega) (by omega) hF
    · refine x_readLaw (k := k + 1) ht hn hk h4 h5 hp hpn n20 hL hcp hu hu4 (by omega) (fun F' A' e1 e2 e3 => b_X11_laws_76 (b_X11_laws_58 (x_good (k := k + 7) (fun z => by omega) (fun _ => b_X11_laws_62 ⟨fun _ => x_good (k := k + 7) (fun z => by omega) (fun _ => b_X11_laws_83 ⟨fun z => absurd rfl z, fun _ => hq0 F' A' (hr _ (e2 m)) e1 (hF.trans e3)⟩), fun z => absurd rfl z⟩)))) (fun F' A' C' cs' u' p' k' g4 g5 L' c' p0 p1 v0 v1 cn e1 e2 => b_X11_laws_76 ?_)
      exact ih F' A' C' cs' u' (j + 1) p' (ht.x2 e2) p0 p1 k' g4 g5 L' (by omega) (by omega) v0 v1 c' (hF.trans e2) (fun r z => hr r (e1 m r z))
theorem r_laws {X : Int × (Int → Int)} {k : Nat} {Q : Vv → Fn2 → Fn2 → Fn2 → Prop} {F A R : Fn2} {σ : Sg} {b : Int → Int} (hR : RS R) (hS : SgI σ) (hX : XI σ b F A)
    (hW : σ.1 0 0 ≤ 300 → ∀ C j, pLw (σ.1 1) (σ.1 0 0) 4 C0 [] 0 0 0 (okT C j) → ∀ i : Nat, i < 3 → ∀ c, C i = some c → Wfc c)
    (hq : ∀ F' A' C j, σ.1 0 0 ≤ 300 → pLw (σ.1 1) (σ.1 0 0) 4 C0 [] 0 0 0 (okT C j) → XI (lwG σ C j) b F' A' → LO F A F' A' → Q (vI j) F' A' R)
    (hq0 : ∀ F' A' a c, σ.1 0 0 ≤ 300 → pLw (σ.1 1) (σ.1 0 0) 4 C0 [] 0 0 0 (flT a c) → 0 < a → XI (flG σ a c) b F' A' → LO F A F' A' → Q (vI (-1)) F' A' R) (hq2 : ¬ σ.1 0 0 ≤ 300 → Q (vI (-2)) F A R) : Wp X (k + 9) m_X11_laws [vA 373] F A R Q := by
  obtain ⟨h1, h2, h3, h4, h5, h6, h7, h8, hr⟩ := id hX
  have s1 := hS.1
  refine Wp.of (k := k + 8) [vA 373, vN] rfl rfl rfl (b_X11_laws_0 ?_)
  rw [h5]
  refine ⟨fun hle => ?_, fun hgt => hq2 (by omega)⟩
  replace hle : σ.1 0 0 ≤ 300 := by omega
  refine x_takeTape (k := k + 7) hR hS hX (fun F1 A1 f1 a1 f2 f3 f4 f5 f7 ht => b_X11_laws_17 ?_)
  refine b_X11_laws_19 hR ⟨fun z => absurd (show (0 : Int) < 3 by decide) z, fun _ => ⟨by decide, by decide, by decide, fun A2 hA2 => ⟨by decide, ?_⟩⟩⟩
  refine b_X11_laws_19 hR ⟨fun z => absurd (show (0 + 1 : Int) < 3 by decide) z, fun _ => ⟨by decide, by decide, by decide, fun A3 hA3 => ⟨by decide, ?_⟩⟩⟩
  refine b_X11_laws_19 hR ⟨fun z => absurd (show (0 + 1 + 1 : Int) < 3 by decide) z, fun _ => ⟨by decide, by decide, by decide, fun A4 hA4 => ⟨by decide, ?_⟩⟩⟩
  refine b_X11_laws_19 hR ⟨fun _ F2 hF2 F3 hF3 F4 hF4 => ?_, fun z => absurd z (by decide)⟩
  have a4 : ∀ a, a ≠ 397 → A4 a = A1 a := fun a ha => by rw [hA4, st2_n ha, hA3, st2_n ha, hA2, st2_n ha]
  have a397 : A4 397 = u1 (u1 (u1 (A1 397) (3 + 0) 0) (3 + (0 + 1)) 0) (3 + (0 + 1 + 1)) 0 := by rw [hA4, st2_s, hA3, st2_s, hA2, st2_s]
  have z397 : ∀ i : Nat, i < 3 → A4 397 (3 + (i : Int)) = 0 := fun i hi => by
    rw [a397]
    unfold u1
    rcases (show i = 0 ∨ i = 1 ∨ i = 2 by omega) with rfl | rfl | rfl <;> rfl
  have x397 : ∀ i : Int, i < 3 → A4 397 i = A1 397 i := fun i hi => by
    rw [a397, u1_n (by omega), u1_n (by omega), u1_n (by omega)]
  have x2 := st373 hF2
  have x3 := st373 hF3
  have x4 := st373 hF4
  have fr : ∀ a f, a ≠ 373 ∨ f ≠ 36 ∧ f ≠ 37 ∧ f ≠ 38 → F4 a f = F1 a f := fun a f hx => by rw [x4 a f (by omega), x3 a f (by omega), x2 a f (by omega)]
  have ht4 : TxX (σ.1 1) (σ.1 0 0) A4 R := ⟨ht.1, ht.2.1, fun i x y => by rw [a4 375 (by decide)]; exact ht.2.2 i x y⟩
  refine x_next (k := k + 6) ht4 (Int.le_refl 0) s1.1 (by rw [fr 373 3 (by omega)]; exact f3) (by rw [fr 373 7 (by omega)]; exact f7) (fun F5 k5 g5 => ?_)
  have L5 : XLn C0 [] 0 0 F5 A4 := by
    refine ⟨⟨?_, ?_, trivial⟩, ?_, fun i hi => z397 i hi⟩
    · rw [g5 373 37 (by omega), x4 373 37 (by omega), hF3, st2_s, u1_s]; rfl
    · rw [g5 373 38 (by omega), hF4, st2_s, u1_s]
    · rw [g5 373 36 (by omega), x4 373 36 (by omega), x3 373 36 (by omega), hF2, st2_s, u1_s]
  have lo : ∀ F' A' : Fn2, XF2 F5 A4 F' A' → LO F A F' A' := fun F' A' y a ha => ⟨by rw [y.2.1 a (by omega) (by omega) (by omega) (by omega) (by omega) (by omega) (by omega), a4 a (by omega), a1 a (by omega)], funext fun f => by rw [y.1 a f (by omega), g5 a f (by omega), fr a f (by omega), f1 a f (by omega)]⟩
  have fk : ∀ F' A' : Fn2, XF2 F5 A4 F' A' → ∀ f, 11 ≤ f ∧ (f < 36 ∨ 40 < f) → F' 373 f = F 373 f := fun F' A' y f hf => by rw [y.1 373 f (by omega), g5 373 f (by omega), fr 373 f (by omega), f1 373 f (by omega)]
  have f2' : ∀ F' A' : Fn2, XF2 F5 A4 F' A' → F' 373 2 = 0 := fun F' A' y => by rw [y.1 373 2 (by omega), g5 373 2 (by omega), fr 373 2 (by omega)]; exact f2
  have ak : ∀ F' A' : Fn2, XF2 F5 A4 F' A' → ∀ a, a < 375 ∨ 375 < a ∧ a < 390 ∨ a = 396 ∨ 397 < a → A' a = A a := fun F' A' y a ha => by rw [y.2.1 a (by omega) (by omega) (by omega) (by omega) (by omega) (by omega) (by omega), a4 a (by omega), a1 a (by omega)]
  refine x_linesT (k := k) (rs := pLw (σ.1 1) (σ.1 0 0) 4 C0 [] 0 0 0) (F0 := F5) (A0 := A4) hle hR (fun F6 A6 C cs u j e1 e4 e5 L6 c6 j0 j4 y6 => ?_) (fun F6 A6 e1 e2 y6 => ?_) 4 F5 A4 C0 [] 0 0 0 ht4 (Int.le_refl 0) s1.1 k5 (by rw [g5 373 4 (by omega), fr 373 4 (by omega)]; exact f4) (by rw [g5 373 5 (by omega), fr 373 5 (by omega)]; exact f5) L5 rfl (by decide) (Int.le_refl 0) (by decide) (Int.le_refl 0) XF2.refl (fun _ z => z)
  · obtain ⟨⟨l37, l38, lcr⟩, l36, l3⟩ := L6
    have b01 : ∀ i : Int, 0 ≤ i → i < 3 → 0 ≤ A6 397 (3 + i) ∧ A6 397 (3 + i) ≤ 1 := fun i i0 i3 => by
      have := l3 i.toNat (by omega)
      rw [show ((i.toNat : Nat) : Int) = i by omega] at this
      cases e : C i.toNat with
      | none => rw [e] at this; have t : A6 397 (3 + i) = 0 := this; omega
      | some c => rw [e] at this; have t := this.1; omega
    refine x_cpL (k := k + 8) (A0 := A6) hR b01 (fun A7 w1 w2 => ?_) 3 0 A6 rfl (fun _ _ _ _ => rfl) (fun j a c => absurd c (by omega)) (fun _ _ => ⟨rfl, rfl, rfl⟩)
    refine x_cpC (k := k + 8) (A0 := A7) (n := cs.length) hR l37 (by omega) (fun F8 A8 hF8 v1 v2 => ?_) cs.length 0 A7 (by omega) (fun _ _ _ => rfl) (fun j a c => absurd c (by omega)) (fun _ _ => ⟨rfl, rfl⟩)
    have x8 := st373 hF8
    have a8 : ∀ a, a ≠ 390 → a ≠ 391 → a ≠ 392 → a ≠ 393 → a ≠ 397 → A8 a = A6 a := fun a q1 q2 q3 q4 q5 => by rw [v1 a q3 q4, w1 a q1 q2 q5]
    rw [l36]
    rw [l36] at hF8
    refine hq F8 A8 C j hle e1 ?_ (fun a ha => ⟨by rw [a8 a (by omega) (by omega) (by omega) (by omega) (by omega)]; exact (lo F6 A6 y6 a ha).1, by rw [← (lo F6 A6 y6 a ha).2]; exact funext fun f => x8 a f (by omega)⟩)
    have eRP : ∀ c, RPm c A8 = RPm c A := fun c => RPm_st fun a x y => by rw [a8 a (by omega) (by omega) (by omega) (by omega) (by omega), ak F6 A6 y6 a (by omega)]
    refine xs_sp (a := 0) (c := -1) hX ?_ h1 h2 (fun i hi => ⟨?_, ?_⟩) ?_ (by rw [x8 373 2 (by omega)]; exact f2' F6 A6 y6) ?_ (fun f hf => by rw [x8 373 f (by omega)]; exact fk F6 A6 y6 f (by omega)) (fun z hz => by rw [a8 z (by omega) (by omega) (by omega) (by omega) (by omega)]; exact ak F6 A6 y6 z (by omega)) (by rw [x8 373 4 (by omega)]; exact e4) (by rw [x8 373 5 (by omega)]; exact e5)
    · show st2 (flG σ 0 (-1)).1 0 5 j = _
      rw [hF8, st2_s, u1_s]
    · rw [a8 376 (by decide) (by decide) (by decide) (by decide) (by decide), ak F6 A6 y6 376 (by omega)]; exact (h3 i hi).1
    · rw [eRP]; exact (h3 i hi).2
    · rw [x8 373 25 (by omega), fk F6 A6 y6 25 (by omega)]; exact h4
    · show XLw A8 C
      have w : ∀ i : Nat, i < 3 → XL1 A8 i (C i) := fun i hi => by
        have t := l3 i hi
        have wi := w2 i (by omega) (by omega)
        have z7 : A8 397 = A7 397 := v1 397 (by decide) (by decide)
        have z0 : A8 390 = A7 390 := v1 390 (by decide) (by decide)
        have z1 : A8 391 = A7 391 := v1 391 (by decide) (by decide)
        cases e : C i with
        | none =>
          rw [e] at t
          show A8 397 i = 0
          rw [z7, wi.1]; exact t
        | some c =>
          rw [e] at t
          obtain ⟨t1, t2, t3⟩ := t
          have sl := t3.len
          refine ⟨by rw [z7, wi.1, t1]; decide, by rw [z1, wi.2.2, t2]; omega, by rw [z0, wi.2.1]; exact sl.1, by rw [z0, z1, wi.2.1, wi.2.2]; exact t2.symm, ?_, hW hle C j e1 i hi c e⟩
          rw [z0, wi.2.1]
          refine rcr_e c _ (fun x x0 x1 => ?_) (t3.rcr lcr)
          have := v2 x (by omega) (by omega)
          rw [this.1, this.2, w1 392 (by decide) (by decide) (by decide), w1 393 (by decide) (by decide) (by decide)]; exact ⟨rfl, rfl⟩
      exact ⟨w 0 (by decide), w 1 (by decide), w 2 (by decide)⟩
  · refine hq0 F6 A6 _ _ hle e1 e2 ?_ (lo F6 A6 y6)
    have eRP : ∀ c, RPm c A6 = RPm c A := fun c => RPm_st fun a x y => ak F6 A6 y6 a (by omega)
    refine xs_sp (a := F6 373 4) (c := F6 373 5) hX (flG_5 (by rw [fk F6 A6 y6 35 (by omega)]; exact h8)) h1 h2 (fun i hi => ⟨by rw [ak F6 A6 y6 376 (by omega)]; exact (h3 i hi).1, by rw [eRP]; exact (h3 i hi).2⟩) (by rw [fk F6 A6 y6 25 (by omega)]; exact h4) (f2' F6 A6 y6) ?_ (fun f hf => fk F6 A6 y6 f (by omega)) (fun z hz => ak F6 A6 y6 z (by omega)) rfl rfl
    have w : ∀ (i : Nat) (c : Option (List Int)), i < 3 → XL1 A i c → XL1 A6 i c := fun i c hi hc => by
      have yi := y6.2.2.2 i (by omega)
      have q7 : A6 397 i = A 397 i := by rw [yi.2.2, x397 i (by omega), a1 397 (by decide)]
      have q0 : A6 390 i = A 390 i := by rw [yi.1, a4 390 (by decide), a1 390 (by decide)]
      have q1 : A6 391 i = A 391 i := by rw [yi.2.1, a4 391 (by decide), a1 391 (by decide)]
      cases c with
      | none =>
        show A6 397 i = 0
        rw [q7]; exact hc
      | some c =>
        obtain ⟨t1, t2, t3, t4, t5, t6⟩ := hc
        refine ⟨by rw [q7]; exact t1, by rw [q1]; exact t2, by rw [q0]; exact t3, by rw [q0, q1]; exact t4, ?_, t6⟩
        rw [q0]
        refine rcr_e c _ (fun x x0 x1 => ?_) t5
        have := y6.2.2.1 x (by omega)
        rw [this.1, this.2, a4 392 (by decide), a4 393 (by decide), a1 392 (by decide), a1 393 (by decide)]; exact ⟨rfl, rfl⟩
    obtain ⟨c1, c2, c3⟩ := h7
    exact ⟨w 0 _ (by decide) c1, w 1 _ (by decide) c2, w 2 _ (by decide) c3⟩
