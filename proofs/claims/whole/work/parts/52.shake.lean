/-! shook, both sides -/
/-- how many logs are so when room r is w wide -/
def rwS (σ : Sg) (i : Nat) (r w : Int) : Int := rtS σ (thG σ i 1 (-1) 0 (u1 (σ.2.1 i 5) r w))
def shW (own s : Int) : Int := if s % 2 = 0 then own - s / 2 else own + s / 2
abbrev B3 : Type := Int × Int × Int
def shS (σ : Sg) (i : Nat) (r s : Int) (b : B3) : B3 :=
  if 0 ≤ shW (σ.2.1 i 5 r) s ∧ shW (σ.2.1 i 5 r) s ≤ 30 ∧ b.1 < rwS σ i r (shW (σ.2.1 i 5 r) s) then (rwS σ i r (shW (σ.2.1 i 5 r) s), r, shW (σ.2.1 i 5 r) s) else b
def shL (σ : Sg) (i : Nat) (r : Int) : Nat → B3 → B3
  | 0, b => b
  | n + 1, b => shS σ i r ((n : Int) + 2) (shL σ i r n b)
def shR (σ : Sg) (i : Nat) : Nat → B3
  | 0 => (rtS σ (th σ i), -1, -1)
  | r + 1 => shL σ i r 60 (shR σ i r)
theorem rtS_b {σ : Sg} (hS : SgI σ) {T : Nat → Int} : 0 ≤ rtS σ T ∧ rtS σ T ≤ σ.1 0 8 := by
  have hL := hS.2.2.2.2.2.1
  have := rt_nn (hi := σ.1 0 2) (T := T) (f := σ.1 6) (t := σ.1 7) (p := σ.1 8) (σ.1 0 8).toNat
  unfold rtS
  have := hL.1
  omega
theorem shS_full {σ : Sg} (hS : SgI σ) {i : Nat} {r s : Int} {b : B3} (h : σ.1 0 8 ≤ b.1) : shS σ i r s b = b := by
  unfold shS
  rw [if_neg]
  rintro ⟨-, -, h3⟩
  have := (rtS_b hS (T := thG σ i 1 (-1) 0 (u1 (σ.2.1 i 5) r (shW (σ.2.1 i 5 r) s)))).2
  unfold rwS at h3
  omega
theorem shL_full {σ : Sg} (hS : SgI σ) {i : Nat} {r : Int} {n : Nat} {b : B3} (h : σ.1 0 8 ≤ (shL σ i r n b).1) : ∀ m : Nat, shL σ i r (n + m) b = shL σ i r n b
  | 0 => rfl
  | m + 1 => by
    show shS σ i r _ (shL σ i r (n + m) b) = _
    rw [shL_full hS h m, shS_full hS h]
theorem rt_cong {hi : Int} {T T' : Nat → Int} {f t p : Int → Int} (h : ∀ x, 1 ≤ x → x ≤ 500 → T x = T' x) : ∀ m : Nat, (∀ i : Int, 0 ≤ i → i < m → 1 ≤ f i ∧ f i ≤ t i ∧ t i ≤ 500) → rtN hi T f t p m = rtN hi T' f t p m
  | 0, _ => rfl
  | m + 1, hl => by
    have h1 := hl m (by omega) (by omega)
    unfold rtN
    rw [rt_cong h m (fun i a b => hl i a (by omega))]
    have e : bgN hi T (f m) (t m) ↔ bgN hi T' (f m) (t m) := by
      unfold bgN
      rw [cnN_cong (T' := T') (fun x a b => h x a (by omega)), cnN_cong (n := (t m).toNat) (T' := T') (fun x a b => h x a (by omega))]
    by_cases hb : bgN hi T (f m) (t m)
    · rw [if_pos hb, if_pos (e.1 hb)]
    · rw [if_neg hb, if_neg (fun h => hb (e.2 h))]
theorem rtS_cong {σ : Sg} (hS : SgI σ) {T T' : Nat → Int} (h : ∀ x, 1 ≤ x → x ≤ 500 → T x = T' x) : rtS σ T = rtS σ T' := by
  have hL := hS.2.2.2.2.2.1
  exact rt_cong h _ fun i a b => by have := hL.2.2 i a (by omega); omega
def ansShook (σ : Sg) (s w : Int) : Int := if (0 ≤ s ∧ s < 4) ∧ 0 ≤ w ∧ w ≤ 2 then (if (shR σ s.toNat (rms (σ.2.1 s.toNat))).2.1 < 0 then -1 else if w = 0 then (shR σ s.toNat (rms (σ.2.1 s.toNat))).2.1 else if w = 1 then (shR σ s.toNat (rms (σ.2.1 s.toNat))).2.2 else (shR σ s.toNat (rms (σ.2.1 s.toNat))).1) else -1
/-- what the class has kept of the last shake -/
def ShK (σ : Sg) (i : Nat) (F : Fn2) : Prop := F 0 16 = (shR σ i (rms (σ.2.1 i))).2.1 ∧ F 0 17 = (shR σ i (rms (σ.2.1 i))).2.2 ∧ F 0 18 = (if (shR σ i (rms (σ.2.1 i))).2.1 < 0 then -1 else (shR σ i (rms (σ.2.1 i))).1)
def ShI (σ : Sg) (F : Fn2) : Prop := F 0 15 = -1 ∨ ∃ i : Nat, i < 4 ∧ F 0 15 = i ∧ ShK σ i F
theorem shS_neg {σ : Sg} {i : Nat} {r s : Int} {b : B3} (hr : 0 ≤ r) (h : b.2.1 < 0 → b.2.2 = -1 ∧ b.2.1 = -1) : (shS σ i r s b).2.1 < 0 → (shS σ i r s b).2.2 = -1 ∧ (shS σ i r s b).2.1 = -1 := by
  unfold shS
  split
  · intro h'; exact absurd hr (by simpa using h')
  · exact h
theorem shL_neg {σ : Sg} {i : Nat} {r : Int} {b : B3} (hr : 0 ≤ r) (h : b.2.1 < 0 → b.2.2 = -1 ∧ b.2.1 = -1) : ∀ n, (shL σ i r n b).2.1 < 0 → (shL σ i r n b).2.2 = -1 ∧ (shL σ i r n b).2.1 = -1
  | 0 => h
  | n + 1 => shS_neg hr (shL_neg hr h n)
theorem shR_neg {σ : Sg} {i : Nat} : ∀ n, (shR σ i n).2.1 < 0 → (shR σ i n).2.2 = -1 ∧ (shR σ i n).2.1 = -1
  | 0 => fun _ => ⟨rfl, rfl⟩
  | n + 1 => shL_neg (by omega) (shR_neg n) 60
/-- the three fields while the shake goes on -/
def ShF (i : Nat) (b : B3) (F : Fn2) : Prop := F 0 15 = i ∧ F 0 16 = b.2.1 ∧ F 0 17 = b.2.2 ∧ F 0 18 = (if b.2.1 < 0 then -1 else b.1)
/-- fields 15 to 18 of cell 0 are nobody else's -/
def KG (F A F' A' : Fn2) : Prop := (∀ f, F' 71 f = F 71 f) ∧ ∀ a, 72 ≤ a → a ≤ 183 → A' a = A a
theorem f0_qf {σ : Sg} {q : Int → Int} {l : Int} {F A R F' : Fn2} (hB : CB σ q l F A R) (hC : CC σ q l F A R) (x : ∀ a f, a ≠ 0 ∨ f < 15 ∨ 18 < f → F' a f = F a f) : CB σ q l F' A R ∧ CC σ q l F' A R ∧ QF F A R F' A R := by
  have h : QF F A R F' A R := by
    refine ⟨fun _ _ => rfl, fun a f ha => x a f ?_, fun _ _ _ _ _ _ _ => rfl, id, hB.1, fun a ha => ⟨rfl, funext fun f => x a f (by omega)⟩⟩
    unfold isBF inQ at ha; omega
  refine ⟨hB.qf h, hC.of (fun _ _ _ _ _ _ => rfl) (fun i hi => ?_), h⟩
  unfold crs
  exact ⟨x _ _ (by omega), fun f => ⟨x _ _ (by omega), rfl⟩⟩
def CG (σ : Sg) (q : Int → Int) (l : Int) (F A R F' A' R' : Fn2) : Prop := CB σ q l F' A' R' ∧ CC σ q l F' A' R' ∧ QF F A R F' A' R' ∧ KG F A F' A'
theorem CG.trans {σ : Sg} {q : Int → Int} {l : Int} {F A R F1 A1 R1 F2 A2 R2 : Fn2} (h : CG σ q l F A R F1 A1 R1) (g : CG σ q l F1 A1 R1 F2 A2 R2) : CG σ q l F A R F2 A2 R2 := ⟨g.1, g.2.1, h.2.2.1.trans g.2.2.1, fun f => (g.2.2.2.1 f).trans (h.2.2.2.1 f), fun a h1 h2 => (g.2.2.2.2 a h1 h2).trans (h.2.2.2.2 a h1 h2)⟩
theorem CQ.g {σ : Sg} {q : Int → Int} {l : Int} {F A R F' A' R' : Fn2} (h : CQ σ q l F A R F' A' R') : CG σ q l F A R F' A' R' := ⟨h.1, h.2.1, h.2.2.1, h.2.2.2.2.1, h.2.2.2.2.2⟩
theorem ShF.k {i : Nat} {b : B3} {F A F' A' : Fn2} (h : ShF i b F) (x : KF F A F' A') : ShF i b F' := by
  unfold ShF; rw [x.1, x.1, x.1, x.1]; exact h
theorem c_shk1 {X : Int × (Int → Int)} {k : Nat} {Q : Vv → Fn2 → Fn2 → Fn2 → Prop} {σ : Sg} {q : Int → Int} {l : Int} {i r : Nat} (hS : SgI σ) (hi : i < 4) (hr : (r : Int) < σ.2.1 i 0 0) : ∀ (m n : Nat) (b0 : B3) (free : Int) (F A R : Fn2) (w8 w9 : Vv), n + m = 60 → CB σ q l F A R → CC σ q l F A R → ShF i (shL σ i r n b0) F → (∀ w, free ≤ w → 0 ≤ w → w ≤ 30 → rwS σ i r w ≤ (shL σ i r n b0).1) → 0 ≤ (shL σ i r n b0).1 → (shL σ i r n b0).1 ≤ 40 → (∀ F' A' R' x5 x6 x7 w8 w9, CG σ q l F A R F' A' R' → ShF i (shL σ i r 60 b0) F' → G X (k + 8) m_X10_shake Q 77 [vA 0, vI i, vI (shL σ i r 60 b0).1, vI (σ.2.1 i 0 0), vI ((r : Int) + 1), vI x5, vI x6, vI x7, w8, w9] [] F' A' R') → G X (k + 8) m_X10_shake Q 107 [vA 0, vI i, vI (shL σ i r n b0).1, vI (σ.2.1 i 0 0), vI r, vI (σ.2.1 i 5 r), vI free, vI ((n : Int) + 2), w8, w9] [] F A R
  | 0, n, b0, free, F, A, R, w8, w9, hm, hB, hC, hF, hfr, hb0, hb1, hq => by
    have e : n = 60 := by omega
    subst e
    have h8 := (hS.2.2.2.2.2.2.1 i hi).1
    exact b_X10_shake_107 hB.1 ⟨fun _ => ⟨by omega, hq F A R _ _ _ _ _ (CQ.refl hB hC).g hF⟩, fun h => absurd (show (61 : Int) < ((60 : Nat) : Int) + 2 by decide) h⟩
  | m + 1, n, b0, free, F, A, R, w8, w9, hm, hB, hC, hF, hfr, hb0, hb1, hq => by
    have hP := hS.2.2.2.2.2.2.1 i hi
    have h8 := hP.1
    have hp5 := hP.2.1 r (by omega) hr
    have h184 := hB.2.2.2.2.2.2.2.2.2.2.2.2.2.2.1
    -- the next step
    have nx : ∀ (b : B3) (free' : Int) (F1 A1 R1 : Fn2) (x8 : Int) (w9 : Vv), b = shL σ i r (n + 1) b0 → CG σ q l F A R F1 A1 R1 → ShF i b F1 → (∀ w, free' ≤ w → 0 ≤ w → w ≤ 30 → rwS σ i r w ≤ b.1) → 0 ≤ b.1 → b.1 ≤ 40 → G X (k + 8) m_X10_shake Q 284 [vA 0, vI i, vI b.1, vI (σ.2.1 i 0 0), vI r, vI (σ.2.1 i 5 r), vI free', vI ((n : Int) + 2), vI x8, w9] [] F1 A1 R1 := by
      intro b free' F1 A1 R1 x8 w9 hb x1 hF1 hfr1 z0 z1
      subst hb
      refine b_X10_shake_284 ⟨by omega, ?_⟩
      have := c_shk1 (X := X) (k := k) (Q := Q) hS hi hr m (n + 1) b0 free' F1 A1 R1 (vI x8) w9 (by omega) x1.1 x1.2.1 hF1 hfr1 z0 z1 fun F' A' R' x5 x6 x7 w8 w9 y1 y2 => hq F' A' R' x5 x6 x7 w8 w9 (x1.trans y1) y2
      rw [show ((n + 1 : Nat) : Int) + 2 = (n : Int) + 2 + 1 by omega] at this
      exact this
    have ub : shL σ i r (n + 1) b0 = shS σ i r ((n : Int) + 2) (shL σ i r n b0) := rfl
    -- one wide
    have one : ∀ w : Int, w = shW (σ.2.1 i 5 r) ((n : Int) + 2) → (w < 0 → G X (k + 8) m_X10_shake Q 284 [vA 0, vI i, vI (shL σ i r n b0).1, vI (σ.2.1 i 0 0), vI r, vI (σ.2.1 i 5 r), vI free, vI ((n : Int) + 2), vI w, w9] [] F A R) ∧ (¬ (w < 0) → ((30 < w → G X (k + 8) m_X10_shake Q 284 [vA 0, vI i, vI (shL σ i r n b0).1, vI (σ.2.1 i 0 0), vI r, vI (σ.2.1 i 5 r), vI free, vI ((n : Int) + 2), vI w, w9] [] F A R) ∧ (¬ (30 < w) → ((w < free → Wp X (k + 8) m_X10_beginTrial [vA 0, vI i] F A R (fun v F A R => G X (k + 8) m_X10_shake Q 178 [vA 0, vI i, vI (shL σ i r n b0).1, vI (σ.2.1 i 0 0), vI r, vI (σ.2.1 i 5 r), vI free, vI ((n : Int) + 2), vI w, w9] [] F A R)) ∧ (¬ (w < free) → G X (k + 8) m_X10_shake Q 284 [vA 0, vI i, vI (shL σ i r n b0).1, vI (σ.2.1 i 0 0), vI r, vI (σ.2.1 i 5 r), vI free, vI ((n : Int) + 2), vI w, w9] [] F A R))))) := by
      intro w hw
      have skip : ¬ (0 ≤ w ∧ w ≤ 30 ∧ (shL σ i r n b0).1 < rwS σ i r w) → G X (k + 8) m_X10_shake Q 284 [vA 0, vI i, vI (shL σ i r n b0).1, vI (σ.2.1 i 0 0), vI r, vI (σ.2.1 i 5 r), vI free, vI ((n : Int) + 2), vI w, w9] [] F A R := by
        intro hno
        have e : shL σ i r (n + 1) b0 = shL σ i r n b0 := by
          rw [ub]; unfold shS; rw [← hw, if_neg hno]
        exact nx (shL σ i r n b0) free F A R _ _ e.symm (CQ.refl hB hC).g hF hfr hb0 hb1
      refine ⟨fun h => skip (by omega), fun h0 => ⟨fun h => skip (by omega), fun h30 => ⟨fun hfre => ?_, fun hfre => skip (fun h => by have := hfr w (by omega) (by omega) (by omega); omega)⟩⟩⟩
      refine w_beginT (k := k + 5) hS hB hC hi fun F1 A1 R1 z z1 z2 z3 z4 z5 z6 z7 => b_X10_shake_178 z1.1.1 ⟨by omega, by omega, fun A2 hA2 => ?_⟩
      have hl := hB.2.2.1
      have x2 : TX l F1 A1 F1 A2 := ⟨fun a h1 h2 => by rw [hA2, st2_n (by omega)], fun _ _ _ => rfl⟩
      have c2 := x2.cq z1.1 z1.2.1
      have hs2 : FS 28 (st2 z 2 r w) F1 A2 := by
        obtain ⟨e0, e1, e2, e3, f5, f6, f7, f8⟩ := z2.2.1
        rw [hA2]
        refine ⟨?_, ?_, ?_, ?_, ?_, ?_, ?_, ?_⟩
        · rw [st2_n (by decide), st2_n (by decide)]; exact e0
        · rw [st2_n (by decide), st2_n (by decide)]; exact e1
        · rw [st2_s, st2_s, e2]
        · rw [st2_n (by decide), st2_n (by decide)]; exact e3
        · rw [st2_n (by decide)]; exact f5
        · rw [st2_n (by decide)]; exact f6
        · rw [st2_n (by decide)]; exact f7
        · rw [st2_n (by decide)]; exact f8
      have hT2 := z2.tx x2 hs2
      have hI2 : Iv (σ.2.1 i) 0 1920 0 0 0 (st2 z 2 r w) := by
        obtain ⟨hb, hp, hk⟩ := z4
        refine ⟨⟨fun x a b => ?_, fun x a b => ?_⟩, by rw [pot_9 (by decide) (by decide)]; exact hp, ?_⟩
        · simp only [ne_eq, Int.add_right_inj, Int.reduceEq, not_false_eq_true, st2_n, st2_s, u1_s, u1_u1]; exact hb.1 x a b
        · have := hb.2 x a b
          simp only [ne_eq, Int.add_right_inj, Int.reduceEq, not_false_eq_true, st2_n, st2_s, u1_s, u1_u1]
          by_cases e : x = r
          · subst e; rw [u1_s]; omega
          · rw [u1_n e]; exact this
        · have := hk.o (b := 2) (i := r) (v := w) (by decide)
          unfold Bk at this ⊢; omega
      have hsq : ∀ w' : Int, SEq True True (σ.2.1 i) (st2 z 2 r w') (zeroS (u1 (σ.2.1 i 5) r w')) := by
        intro w'
        obtain ⟨a1, a2, a3, a4⟩ := z3
        refine ⟨fun x a b => ?_, fun x a b => ?_, fun h => ?_, fun h => ?_⟩
        · simp only [ne_eq, Int.add_right_inj, Int.reduceEq, not_false_eq_true, st2_n, st2_s, u1_s, u1_u1]; exact a1 x a b
        · simp only [ne_eq, Int.add_right_inj, Int.reduceEq, not_false_eq_true, st2_n, st2_s, u1_s, u1_u1]
          show _ = u1 (σ.2.1 i 5) r w' x
          by_cases e : x = r
          · subst e; rw [u1_s, u1_s]
          · rw [u1_n e, u1_n e]; exact a2 x a b
        · simp only [ne_eq, Int.add_right_inj, Int.reduceEq, not_false_eq_true, st2_n, st2_s, u1_s, u1_u1]; exact a3 h
        · simp only [ne_eq, Int.add_right_inj, Int.reduceEq, not_false_eq_true, st2_n, st2_s, u1_s, u1_u1]; exact a4 h
      have hrun : ∀ (w' : Int) (t : Nat), itS (tickA (σ.2.1 i) (LwF σ.2.2) (σ.1 0 1) 1 (-1) 0) t (st2 z 2 r w') 9 15 = thG σ i 1 (-1) 0 (u1 (σ.2.1 i 5) r w') t := fun w' t => (it_run (L := LwF σ.2.2) (cw := σ.1 0 1) (jn := 1) (lr := -1) (lg := 0) hP (hsq w') t).2.2.1 trivial
      obtain ⟨t1, t2, t3, t4, t5, t6⟩ := hT2
      refine w_trial (k := k + 2) (N := 500) (s := st2 z 2 r w) c2.1.1 hP hS.2.1.1 hS.2.1.2 (by omega) (by omega) (by omega) (by omega) hI2 (by omega) (by omega) (by omega) (by omega) t1 t2 t3 t4 t5 t6 fun F3 A3 hp => ?_
      obtain ⟨p1, p2, p3, mm, pm1, pm2, pm3⟩ := hp
      have c3 := (z1.trans c2).trans (p1.cq c2.1 c2.2.1)
      have hF3 : ShF i (shL σ i r n b0) F3 := hF.k c3.2.2.2
      have hnd : A3 (28 + 21) r = itS (tickA (σ.2.1 i) (LwF σ.2.2) (σ.1 0 1) 1 (-1) 0) mm (st2 z 2 r w) 3 r := by rw [show A3 (28 + 21) = _ from pm2.2.2.2.1]
      -- how many logs are so
      have cnt : ∀ free', (∀ w', free' ≤ w' → 0 ≤ w' → w' ≤ 30 → rwS σ i r w' ≤ max (shL σ i r n b0).1 (rwS σ i r w)) → Wp X (k + 8) m_X4_countAlike [vA 184, vA 55, vI (σ.1 0 2)] F3 A3 R1 (fun v F A R => G X (k + 8) m_X10_shake Q 255 [vA 0, vI i, vI (shL σ i r n b0).1, vI (σ.2.1 i 0 0), vI r, vI (σ.2.1 i 5 r), vI free', vI ((n : Int) + 2), vI w, w9] [v] F A R) := by
        intro free' hfr'
        refine w_alikeS (k := k + 6) (T := thG σ i 1 (-1) 0 (u1 (σ.2.1 i 5) r w)) hS c3.1 c3.2.1 (by decide +kernel) (show Y1.2.1 55 = 1001 by decide +kernel) (by omega) (fun t h1 h2 => ?_) fun A4 y1 y2 => ?_
        · have := p2 t h1 h2
          rw [show (1 : Int) - 1 + (t : Int) = t by omega] at this
          rw [this]; exact hrun w t
        · have c4 := c3.trans y1
          have hF4 : ShF i (shL σ i r n b0) F3 := hF3
          have hrw := rtS_b hS (T := thG σ i 1 (-1) 0 (u1 (σ.2.1 i 5) r w))
          have hL40 := hS.2.2.2.2.2.1.2.1
          show G X (k + 8) m_X10_shake Q 255 _ [vI (rwS σ i r w)] F3 A4 R1
          have hrw' : 0 ≤ rwS σ i r w ∧ rwS σ i r w ≤ σ.1 0 8 := hrw
          refine b_X10_shake_255 ⟨fun hz => ?_, fun hz F5 h5 F6 h6 F7 h7 => ?_⟩
          · have e : shL σ i r (n + 1) b0 = shL σ i r n b0 := by
              rw [ub]; unfold shS; rw [← hw, if_neg (fun h => hz h.2.2)]
            exact nx (shL σ i r n b0) free' F3 A4 R1 _ _ e.symm c4.g hF4 (fun w' q1 q2 q3 => by have := hfr' w' q1 q2 q3; omega) hb0 hb1
          · have e : shL σ i r (n + 1) b0 = (rwS σ i r w, (r : Int), w) := by
              rw [ub]; unfold shS; rw [← hw, if_pos ⟨by omega, by omega, hz⟩]
            have x7 : ∀ a f, a ≠ 0 ∨ f < 15 ∨ 18 < f → F7 a f = F3 a f := fun a f hx => by
              rw [h7, h6, h5]
              by_cases e : a = 0
              · subst e; rw [st2_s, u1_n (by omega), st2_s, u1_n (by omega), st2_s, u1_n (by omega)]
              · rw [st2_n e, st2_n e, st2_n e]
            obtain ⟨g1, g2, g3⟩ := f0_qf c4.1 c4.2.1 x7
            refine nx (rwS σ i r w, (r : Int), w) free' F7 A4 R1 _ _ e.symm (c4.g.trans ⟨g1, g2, g3, fun f => x7 _ _ (by omega), fun _ _ _ => rfl⟩) ⟨?_, ?_, ?_, ?_⟩ (fun w' q1 q2 q3 => by have := hfr' w' q1 q2 q3; show _ ≤ rwS σ i r w; omega) hrw'.1 (by show rwS σ i r w ≤ 40; omega)
            · rw [h7, h6, h5]; simp only [ne_eq, Int.add_right_inj, Int.reduceEq, not_false_eq_true, st2_n, st2_s, u1_s, u1_u1, u1_n]; exact hF4.1
            · rw [h7, h6, h5]; simp only [ne_eq, Int.add_right_inj, Int.reduceEq, not_false_eq_true, st2_n, st2_s, u1_s, u1_u1, u1_n]
            · rw [h7, h6]; simp only [ne_eq, Int.add_right_inj, Int.reduceEq, not_false_eq_true, st2_n, st2_s, u1_s, u1_u1, u1_n]
            · rw [h7]; simp only [ne_eq, Int.add_right_inj, Int.reduceEq, not_false_eq_true, st2_n, st2_s, u1_s, u1_u1]
              rw [if_neg (by show ¬ (r : Int) < 0; omega)]
      have fr2 := fun w' (h1 : itS (tickA (σ.2.1 i) (LwF σ.2.2) (σ.1 0 1) 1 (-1) 0) mm (st2 z 2 r w) 3 r ≤ w) (h2 : itS (tickA (σ.2.1 i) (LwF σ.2.2) (σ.1 0 1) 1 (-1) 0) mm (st2 z 2 r w) 3 r ≤ w') => free_same (L := LwF σ.2.2) (cw := σ.1 0 1) (r := (r : Int)) (w := w') hP pm3 (by rw [st2_s, u1_s]; exact h1) h2
      refine b_X10_shake_204 c3.1.1 ?_
      rw [hnd, c3.1.2.2.2.2.2.2.2.2.2.2.2.2.1]
      refine ⟨by omega, by omega, fun hz => cnt free fun w' q1 q2 q3 => by have := hfr w' q1 q2 q3; omega, fun hz g1 hg1 => cnt g1 fun w' q1 q2 q3 => ?_⟩
      have h := fr2 w' (by omega) (by rw [← hg1]; exact q1)
      have e : rwS σ i r w' = rwS σ i r w := by
        unfold rwS
        refine rtS_cong hS fun x a b => ?_
        have h3 := h x a b
        rw [hrun w x] at h3
        rw [h3]
        have e4 : st2 (st2 z 2 r w) 2 r w' = st2 z 2 r w' := by
          unfold st2; rw [up2_s, u1_u1, up2_up2]
        rw [e4, hrun w' x]
      rw [e]; omega
    refine b_X10_shake_107 hB.1 ⟨fun h => by omega, fun _ => ?_⟩
    rw [h184.1]
    refine ⟨fun hfull => ?_, fun hlt => ⟨by omega, fun hodd => ⟨by omega, fun g1 hg1 => one g1 ?_⟩, fun heven => ⟨by omega, fun g1 hg1 => one g1 ?_⟩⟩⟩
    · refine ⟨by omega, ?_⟩
      have e := shL_full hS (i := i) (r := (r : Int)) (n := n) (b := b0) (by omega) (m + 1)
      rw [show n + (m + 1) = 60 by omega] at e
      have := hq F A R (σ.2.1 i 5 r) free ((n : Int) + 2) w8 w9 (CQ.refl hB hC).g (by rw [e]; exact hF)
      rw [e] at this
      exact this
    · rw [hg1]; unfold shW; rw [if_neg hodd]
    · rw [hg1]; unfold shW; rw [if_pos heven]
