/-! THE CALL laws, the class -/
/-- new laws -/
def lwG (σ : Sg) (C : Cd) (j : Int) : Sg := (st2 (flG σ 0 (-1)).1 0 5 j, σ.2.1, C)
theorem lwG_n {σ : Sg} {C : Cd} {j x y : Int} (h : x ≠ 0 ∨ y ≠ 5) : (lwG σ C j).1 x y = (flG σ 0 (-1)).1 x y := by
  show st2 (flG σ 0 (-1)).1 0 5 j x y = _
  by_cases e : x = 0
  · subst e; rw [st2_s, u1_n (by omega)]
  · rw [st2_n e]
theorem lwG_r {σ : Sg} {C : Cd} {j x : Int} (h : x ≠ 0) : (lwG σ C j).1 x = σ.1 x := by
  show st2 (flG σ 0 (-1)).1 0 5 j x = _
  rw [st2_n h, flG_r h]
theorem lwG_S {σ : Sg} {C : Cd} {j : Int} (hS : SgI σ) : SgI (lwG σ C j) := by
  obtain ⟨s1, s2, s3, s4, s5, s6, s7, s8, s9⟩ := flG_S (a := 0) (b := -1) hS
  have n := fun y (hy : y ≠ 5) => lwG_n (σ := σ) (C := C) (j := j) (x := 0) (y := y) (Or.inr hy)
  have r := fun x (hx : x ≠ 0) => (lwG_r (σ := σ) (C := C) (j := j) (x := x) hx).trans (flG_r (a := 0) (b := -1) hx).symm
  refine ⟨by rw [n _ (by decide)]; exact s1, by rw [n _ (by decide)]; exact s2, by rw [n _ (by decide)]; exact s3, by rw [n _ (by decide)]; exact s4, by rw [n _ (by decide)]; exact s5, ?_, hS.2.2.2.2.2.2.1, fun k k0 k1 => ?_, ?_⟩
  · rw [n _ (by decide), r _ (by decide), r _ (by decide), r _ (by decide)]; exact s6
  · rw [n _ (by decide), flG_0.1] at k1; omega
  · rw [n _ (by decide), r _ (by decide), r _ (by decide), r _ (by decide), r _ (by decide)]; exact s9
theorem flG_5 {σ : Sg} {a b v : Int} (h : v = σ.1 0 5) : (flG σ a b).1 = st2 (flG σ a b).1 0 5 v := by
  subst h
  funext i j
  by_cases e : i = 0
  · subst e
    rw [st2_s]
    by_cases e5 : j = 5
    · subst e5; rw [u1_s, flG_n (by decide)]
    · rw [u1_n e5]
  · rw [st2_n e]
theorem c_laws {X : Int × (Int → Int)} {k : Nat} {Q : Vv → Fn2 → Fn2 → Fn2 → Prop} {F A R : Fn2} {σ : Sg} {q : Int → Int} {l : Int} (hS : SgI σ) (hB : CB σ q l F A R) (hC : CC σ q l F A R) (hI : ShI σ F)
    (hq : ∀ F' A' R' C j, σ.1 0 0 ≤ 300 → pLw (σ.1 1) (σ.1 0 0) 4 C0 [] 0 0 0 (okT C j) → CS (lwG σ C j) q (39 - l) F A F' A' R' → KB F A F' A' → Q (vI j) F' A' R')
    (hq0 : ∀ F' A' R' a b, σ.1 0 0 ≤ 300 → pLw (σ.1 1) (σ.1 0 0) 4 C0 [] 0 0 0 (flT a b) → 0 < a → CS (flG σ a b) q l F A F' A' R' → KB F A F' A' → Q (vI (-1)) F' A' R') (hq2 : ¬ σ.1 0 0 ≤ 300 → Q (vI (-2)) F A R) : Wp X (k + 60) m_X10_laws [vA 0] F A R Q := by
  obtain ⟨h1, h2, h3, h4, h5, h6, h7, h8, h9, h10, h11, hr⟩ := id hB
  have s1 := hS.1
  refine Wp.of (k := k + 59) [vA 0, vN] rfl rfl rfl (b_X10_laws_0 h1 ⟨fun hle => ?_, fun hgt => hq2 (by rw [h8] at hgt; omega)⟩)
  rw [h8] at hle
  replace hle : σ.1 0 0 ≤ 300 := by omega
  refine c_begin (k := k + 52) hS hB (fun F1 R1 hR1 ht hk hF1 hRR => ?_)
  have hlD := h3
  unfold lawD at hlD
  have lo : lawD (39 - l) := by unfold lawD; omega
  have e06 : R1 0 6 = 39 - l := by rw [hRR 0 6 (by omega)]; exact h6
  have e05 : R1 0 5 = l := by rw [hRR 0 5 (by omega)]; exact h5
  refine b_X10_laws_28 hR1 e06 (lawD_at lo) (fun F2 hF2 => ?_)
  have x2 := st0 hF2
  have k2 : TkC (σ.1 1) (σ.1 0 0) 0 F2 := hk.same (by rw [hF2, st2_n (by decide)])
  have hG : ∀ (F3 A3 : Fn2), FLT (39 - l) F2 A F3 A3 → (∀ a f, a ≠ 2 → a ≠ 39 - l → a ≠ 0 ∨ f ≠ 1 → F3 a f = F a f) ∧ F3 0 1 = 0 ∧ ∀ a, a < 39 - l + 1 ∨ 39 - l + 3 < a → A3 a = A a := fun F3 A3 x => by
    refine ⟨fun a f a2 a4 h => ?_, ?_, x.2⟩
    · rw [x.1 _ _ a4 (by omega), x2 _ _ (by omega), hF1 _ _ a2]
    · rw [x.1 _ _ (by omega) (by omega), hF2, st2_s, u1_s]
  refine c_rdL (k := k + 1) ht s1.1 (by omega) k2 lo (fun F3 A3 C j e1 ej cl f1 z8 z9 => ?_) (fun F3 A3 e1 e2 f1 => ?_)
  · obtain ⟨g1, g2, g3⟩ := hG F3 A3 f1
    refine b_X10_laws_44 hR1 e05 (lawD_at h3) e06 (lawD_at lo) ⟨fun _ R2 hR2 hRS2 R3 hR3 hRS3 => ?_, fun h => absurd h (by decide)⟩
    refine c_forget (k := k + 57) hRS3 (fun F4 u1' u2 u3 => ?_)
    have r05 : R3 0 5 = 39 - l := by rw [hR3, st2_s, u1_n (by decide), hR2, st2_s, u1_s]
    have r06 : R3 0 6 = l := by rw [hR3, st2_s, u1_s]
    have hRo : ∀ a f, a ≠ 2 → a ≠ 0 ∨ f ≠ 5 ∧ f ≠ 6 → R3 a f = R a f := fun a f a2 h => by
      have y3 : R3 a f = R2 a f := by
        rw [hR3]
        by_cases e : a = 0
        · subst e; rw [st2_s, u1_n (by omega)]
        · rw [st2_n e]
      have y2 : R2 a f = R1 a f := by
        rw [hR2]
        by_cases e : a = 0
        · subst e; rw [st2_s, u1_n (by omega)]
        · rw [st2_n e]
      rw [y3, y2, hRR _ _ (by omega)]
    have x4 : ∀ a f, (∀ i : Nat, i < 4 → a ≠ crs i ∨ f ≠ 8) → a ≠ 0 ∨ f ≠ 15 → F4 a f = F3 a f := u3
    have nc : ∀ a : Int, a < 189 ∨ 327 < a ∨ inQ a → ∀ i : Nat, i < 4 → ∀ f : Int, a ≠ crs i ∨ f ≠ 8 := fun a h i hi f => by unfold crs; unfold inQ at h; omega
    refine b_X10_laws_71 (lawD_at h3) r05 (lawD_at lo) ?_
    have ej4 : F4 (39 - l) 0 = j := by rw [x4 _ _ (fun i hi => nc _ (by omega) i hi _) (by omega)]; exact ej
    rw [ej4]
    refine hq F4 A3 R3 C j hle e1 ?_ (fun a a0 a1 => ⟨funext fun f => by rw [x4 _ _ (fun i hi => nc _ (by omega) i hi _) (by omega), g1 _ _ (by omega) (by omega) (by omega)], g3 a (by omega)⟩)
    refine cs_sp (a := 0) (b := -1) (lwG_S hS) hB ?_ hRS3 h2 lo ?_ r05 (by rw [r06]; omega) (fun i hi => ⟨?_, ?_⟩) cl (fun a f h => ?_) (fun a h => g3 a (by omega)) ?_ ?_ ?_ (fun i hi => Or.inl (u1' i hi)) (Or.inl u2) (fun a h => ⟨g3 a (by omega), funext fun f => by rw [x4 _ _ (fun i hi => nc _ (by omega) i hi _) (by omega), g1 _ _ (by omega) (by omega) (by omega)]⟩)
    · show st2 (flG σ 0 (-1)).1 0 5 j = _
      rw [ej4]
    · rw [hRo _ _ (by decide) (by decide)]; exact h4
    · rw [hRo _ _ (by omega) (by omega)]; exact (h7 i hi).1
    · obtain ⟨c2, c3, c4⟩ := (h7 i hi).2
      have qi := h2.1 i (by omega) (by omega)
      have qi' := qi
      unfold inQ at qi'
      refine ⟨fun j a b => ?_, ?_, ?_⟩
      · rw [g3 _ (by omega)]; exact c2 j a b
      · rw [x4 _ _ (fun i hi => nc _ (Or.inr (Or.inr qi)) i hi _) (by omega), g1 _ _ (by omega) (by omega) (by omega)]; exact c3
      · rw [x4 _ _ (fun i hi => nc _ (Or.inr (Or.inr qi)) i hi _) (by omega), g1 _ _ (by omega) (by omega) (by omega)]; exact c4
    · rw [x4 _ _ (fun i hi => nc _ (by omega) i hi _) (by omega), g1 _ _ (by omega) (by omega) (by omega)]
    · rw [x4 _ _ (fun i hi => nc _ (by omega) i hi _) (by omega)]; exact g2
    · rw [x4 _ _ (fun i hi => nc _ (by omega) i hi _) (by omega)]; exact z8
    · rw [x4 _ _ (fun i hi => nc _ (by omega) i hi _) (by omega)]; exact z9
  · obtain ⟨g1, g2, g3⟩ := hG F3 A3 f1
    refine b_X10_laws_44 hR1 e05 (lawD_at h3) e06 (lawD_at lo) ⟨fun h => absurd rfl h, fun _ => ?_⟩
    refine hq0 F3 A3 R1 _ _ hle e1 e2 ?_ (fun a a0 a1 => ⟨funext fun f => g1 _ _ (by omega) (by omega) (by omega), g3 a (by omega)⟩)
    have hRo : ∀ a f, a ≠ 2 → R1 a f = R a f := fun a f h => hRR a f (by omega)
    refine cs_sp (a := F3 2 7) (b := F3 2 8) (flG_S hS) hB (flG_5 (by rw [g1 _ _ (by omega) (by omega) (by omega)]; exact h11)) hR1 h2 h3 (by rw [hRo _ _ (by decide)]; exact h4) e05 e06 (fun i hi => ⟨by rw [hRo _ _ (by omega)]; exact (h7 i hi).1, ?_⟩) ?_ (fun a f h => g1 _ _ (by omega) (by omega) (by omega)) (fun a h => g3 a (by omega)) g2 rfl rfl (fun i hi => ?_) ?_ (fun a h => ⟨g3 a (by omega), funext fun f => g1 _ _ (by omega) (by omega) (by omega)⟩)
    · obtain ⟨c2, c3, c4⟩ := (h7 i hi).2
      have qi := h2.1 i (by omega) (by omega)
      unfold inQ at qi
      refine ⟨fun j a b => ?_, ?_, ?_⟩
      · rw [g3 _ (by omega)]; exact c2 j a b
      · rw [g1 _ _ (by omega) (by omega) (by omega)]; exact c3
      · rw [g1 _ _ (by omega) (by omega) (by omega)]; exact c4
    · exact h10.of (g3 _ (by omega)) (g3 _ (by omega)) (g3 _ (by omega))
    · show CrsI (crs i) (q i) l ((flG σ (F3 2 7) (F3 2 8)).1 0 1) (σ.2.1 i) σ.2.2 F3 A3 R1
      rw [flG_n (by decide)]
      have := hC i hi
      unfold crs at this ⊢
      exact this.of (fun a a0 a1 => g3 a (by omega)) (g1 _ _ (by omega) (by omega) (by omega)) (fun f => g1 _ _ (by omega) (by omega) (by omega)) (fun f => hRo _ _ (by omega))
    · exact hI.of (fun f f0 f1 => g1 _ _ (by omega) (by omega) (by omega)) rfl (flG_n (by decide)) (flG_n (by decide)) (flG_n (by decide)) (flG_r (by decide)) (flG_r (by decide)) (flG_r (by decide))
