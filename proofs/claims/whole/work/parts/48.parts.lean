/-! parts -/
def addH (r w : Int) (z : Fn2) : Fn2 := st2 z 1 r (z 1 r + w)
theorem addH_iv {P s : Fn2} {K t c a g r w : Int} (hI : Iv P K t c a g s) (hP : WFP P) (h0 : 0 ≤ r) (hr : r < P 0 0) (hw : 0 ≤ w) : Iv P (K + w) t c a g (addH r w s) := by
  obtain ⟨a1, a2, a3, a4⟩ := hI.1.1 r h0 (by have := hP.1; omega)
  have := Iv.put (w := s 0 r) (h := s 1 r + w) hI hP h0 hr a1 (a3 hr) (by omega)
  rw [show st2 s 0 r (s 0 r) = s from st2_self] at this
  refine this.mono ?_ (Int.le_refl _) (Int.le_refl _) (Int.le_refl _) (Int.le_refl _)
  unfold pp; omega
theorem addH_cong {τ β : Prop} {P s s' : Fn2} {r w : Int} (hs : SEq τ β P s s') (h0 : 0 ≤ r) (h8 : r < 8) : SEq τ β P (addH r w s) (addH r w s') := by
  have h := hs.1 r h0 h8
  have := hs.put (r := r) (w := s 0 r) (w' := s' 0 r) (h := s 1 r + w) (h' := s' 1 r + w) h.1 (by rw [h.2])
  rw [show st2 s 0 r (s 0 r) = s from st2_self, show st2 s' 0 r (s' 0 r) = s' from st2_self] at this
  exact this
def ptZ (σ : Sg) (i : Nat) (r w : Int) : Nat → Fn2
  | 0 => zeroS (σ.2.1 i 5)
  | 1 => addH r w (yrF σ i (zeroS (σ.2.1 i 5)))
  | t + 2 => yrF σ i (ptZ σ i r w (t + 1))
def ptT (σ : Sg) (i : Nat) (r w : Int) (t : Nat) : Int := ptZ σ i r w t 9 15
theorem addH_9 {r w x : Int} {z : Fn2} : addH r w z 9 x = z 9 x := by unfold addH; rw [st2_n (by decide)]
theorem ptZ_it {σ : Sg} {i : Nat} {r w : Int} : ∀ t : Nat, ptZ σ i r w (t + 1) = itS (yrF σ i) t (ptZ σ i r w 1)
  | 0 => rfl
  | t + 1 => by
    show yrF σ i (ptZ σ i r w (t + 1)) = yrF σ i (itS (yrF σ i) t (ptZ σ i r w 1))
    rw [ptZ_it t]
def ptN (c1 c2 : Int) (f1 f2 : Int → Int) : Nat → Int → Int
  | 0, _ => -1
  | m + 1, i => if i < max c1 c2 then (if i < c1 ∧ i < c2 ∧ f1 i = f2 i then ptN c1 c2 f1 f2 m (i + 1) else i + 1) else -1
def ansParts (σ : Sg) (s r w n : Int) : Int := if (0 ≤ s ∧ s < 4) ∧ (1 ≤ w ∧ w ≤ 999) ∧ (1 ≤ n ∧ n ≤ 1000) ∧ 0 ≤ r ∧ r < σ.2.1 s.toNat 0 0 then
    ptN (min (cnN (σ.1 0 2) (th σ s.toNat) n.toNat) 200) (min (cnN (σ.1 0 2) (ptT σ s.toNat r w) n.toNat) 200) (psN (σ.1 0 2) (th σ s.toNat) n.toNat 0) (psN (σ.1 0 2) (ptT σ s.toNat r w) n.toNat 0) 201 0
  else -1
theorem c_partsL {X : Int × (Int → Int)} {k : Nat} {Q : Vv → Fn2 → Fn2 → Fn2 → Prop} {R : Fn2} {c1 c2 x0 x1 x2 x3 x4 : Int} {f1 f2 : Int → Int} {F A : Fn2} (hR : RS R) (h1 : F 58 3 = c1) (h2 : F 62 3 = c2) (b1 : 0 ≤ c1 ∧ c1 ≤ 200) (b2 : 0 ≤ c2 ∧ c2 ≤ 200) (e1 : ∀ i, 0 ≤ i → i < c1 → A (58 + 1) i = f1 i) (e2 : ∀ i, 0 ≤ i → i < c2 → A (62 + 1) i = f2 i) : ∀ (m : Nat) (i : Int), 0 ≤ i → 200 < i + m → Q (vI (ptN c1 c2 f1 f2 m i)) F A R → G X k m_X10_parts Q 97 [vA 0, vI x1, vI x2, vI x3, vI x4, vI (max c1 c2), vI i] [] F A R
  | 0, i, h0, hm, hq => b_X10_parts_97 hR ⟨fun _ => hq, fun h => absurd h (by omega)⟩
  | m + 1, i, h0, hm, hq => by
    unfold ptN at hq
    refine b_X10_parts_97 hR ?_
    rw [h1, h2]
    refine ⟨fun h => ?_, fun h => ⟨fun h3 => ⟨by omega, ?_⟩, fun h3 => ⟨fun h4 => ⟨by omega, ?_⟩, fun h4 => ⟨h0, by omega, ?_⟩⟩⟩⟩
    · rwa [if_neg h] at hq
    · rwa [if_pos h, if_neg (by omega)] at hq
    · rwa [if_pos h, if_neg (by omega)] at hq
    · rw [e1 i h0 h3, e2 i h0 h4]
      refine ⟨fun h5 => ⟨by omega, ?_⟩, fun h5 => ⟨by omega, ?_⟩⟩
      · rw [if_pos h, if_pos ⟨h3, h4, h5⟩] at hq
        exact c_partsL (x0 := x0) hR h1 h2 b1 b2 e1 e2 m (i + 1) (by omega) (by omega) hq
      · rwa [if_pos h, if_neg (fun h' => h5 h'.2.2)] at hq
theorem pt_b {σ : Sg} (hS : SgI σ) {i : Nat} (hi : i < 4) {r w : Int} (h0 : 0 ≤ r) (hr : r < σ.2.1 i 0 0) (hw : 0 ≤ w) (hw2 : w ≤ 999) : ∀ t : Nat, Iv (σ.2.1 i) (19512 * t + 999) 1920 (240 * t) (2712 * t) (792 * t) (ptZ σ i r w t)
  | 0 => by
    have hP := hS.2.2.2.2.2.2.1 i hi
    have : Iv (σ.2.1 i) (19512 * (0 : Nat)) 1920 (240 * (0 : Nat)) (2712 * (0 : Nat)) (792 * (0 : Nat)) (zeroS (σ.2.1 i 5)) := iv_run (L := LwF σ.2.2) (cw := σ.1 0 1) (jn := 1) (lr := -1) (lg := 0) hP LwF_ok hS.2.1.1 hS.2.1.2 (by omega) (fun x a b => by have := hP.2.1 x a b; omega) 0
    exact this.mono (by omega) (by omega) (by omega) (by omega) (by omega)
  | 1 => by
    have hP := hS.2.2.2.2.2.2.1 i hi
    have h1 : Iv (σ.2.1 i) (19512 * (1 : Nat)) 1920 (240 * (1 : Nat)) (2712 * (1 : Nat)) (792 * (1 : Nat)) (yrF σ i (zeroS (σ.2.1 i 5))) := iv_run (L := LwF σ.2.2) (cw := σ.1 0 1) (jn := 1) (lr := -1) (lg := 0) hP LwF_ok hS.2.1.1 hS.2.1.2 (by omega) (fun x a b => by have := hP.2.1 x a b; omega) 1
    exact (addH_iv h1 hP h0 hr hw).mono (by omega) (by omega) (by omega) (by omega) (by omega)
  | t + 2 => by
    have hP := hS.2.2.2.2.2.2.1 i hi
    have := iv_tick (jn := 1) (lr := -1) (lg := 0) (L := LwF σ.2.2) (pt_b hS hi h0 hr hw hw2 (t + 1)) hP LwF_ok hS.2.1.1 hS.2.1.2 (by omega)
    exact this.mono (by omega) (by omega) (by omega) (by omega) (by omega)
theorem ptT_b {σ : Sg} (hS : SgI σ) {i : Nat} (hi : i < 4) {r w : Int} (h0 : 0 ≤ r) (hr : r < σ.2.1 i 0 0) (hw : 0 ≤ w) (hw2 : w ≤ 999) (t : Nat) : 0 ≤ ptT σ i r w t ∧ ptT σ i r w t ≤ 1920 := by
  have h := (pt_b hS hi h0 hr hw hw2 t).2.2
  unfold Bk at h
  unfold ptT; omega
theorem c_parts {X : Int × (Int → Int)} {k : Nat} {Q : Vv → Fn2 → Fn2 → Fn2 → Prop} {F A R : Fn2} {σ : Sg} {q : Int → Int} {l s r w n : Int} (hS : SgI σ) (hB : CB σ q l F A R) (hC : CC σ q l F A R) (hq : ∀ F' A' R', CQ σ q l F A R F' A' R' → Q (vI (ansParts σ s r w n)) F' A' R') : Wp X (k + 9) m_X10_parts [vA 0, vI s, vI r, vI w, vI n] F A R Q := by
  have no : ¬ ((0 ≤ s ∧ s < 4) ∧ (1 ≤ w ∧ w ≤ 999) ∧ (1 ≤ n ∧ n ≤ 1000) ∧ 0 ≤ r ∧ r < σ.2.1 s.toNat 0 0) → Q (vI (-1)) F A R := by
    intro h
    have := hq F A R (CQ.refl hB hC)
    unfold ansParts at this; rwa [if_neg h] at this
  refine Wp.of [vA 0, vI s, vI r, vI w, vI n, vN, vN] rfl rfl rfl (b_X10_parts_0 (w_isRoom (k := k + 6) hB (fun i hi hs hr0 hr1 => ?_) (fun hno => b_X10_parts_6 ⟨fun _ => b_X10_parts_29 (no fun h => hno ⟨s.toNat, by omega, by omega, h.2.2.2⟩), fun h => absurd rfl h⟩)))
  subst hs
  have ei : ((i : Int)).toNat = i := by omega
  refine b_X10_parts_6 ⟨fun h => absurd h (by decide), fun _ => ⟨fun h => b_X10_parts_29 (no (by omega)), fun hw1 => ⟨fun h => b_X10_parts_29 (no (by omega)), fun hw2 => ?_⟩⟩⟩
  have hP := hS.2.2.2.2.2.2.1 i hi
  have h8 := hP.1
  refine w_isCourse (k := k + 7) (fun n0 n1 => ?_) (fun h => b_X10_parts_26 ⟨fun h => absurd rfl h, fun _ => b_X10_parts_29 (no fun h' => h h'.2.2.1)⟩)
  have en : n = (n.toNat : Int) := by omega
  rw [en]
  refine b_X10_parts_26 ⟨fun _ => w_rcp (k := k) hS hB hC hi (by omega) fun F1 A1 R1 y1 y2 y3 => b_X10_parts_38 ?_, fun h => absurd h (by decide)⟩
  refine w_beginT (k := k + 5) hS y1.1 y1.2.1 hi fun F2 A2 R2 z z1 z2 z3 z4 z5 z6 z7 => b_X10_parts_43 z1.1.1 ?_
  have z2' := z2
  obtain ⟨t1, t2, t3, t4, t5, t6⟩ := z2'
  refine w_trial (k := k + 2) (N := 1) (s := z) z1.1.1 hP hS.2.1.1 hS.2.1.2 (by omega) (by omega) (by omega) (by omega) (z4.mono (K' := 0) (t' := 1920) (c' := 0) (a' := 0) (g' := 0) (by omega) (by omega) (by omega) (by omega) (by omega)) (by omega) (by omega) (by omega) (by omega) t1 t2 t3 t4 t5 t6 fun F3 A3 hp => ?_
  obtain ⟨p1, p2, p3, m, pm1, pm2, pm3⟩ := hp
  have em : m = 1 := by
    rcases pm3 with h | h
    · exact h
    · omega
  subst em
  have x3 := p1.cq z1.1 z1.2.1
  have hT3 := z2.tx p1 pm2
  have hI3 : Iv (σ.2.1 i) 19512 1920 240 2712 792 (yrF σ i z) := by
    have := iv_tick (jn := 1) (lr := -1) (lg := 0) (L := LwF σ.2.2) z4 hP LwF_ok hS.2.1.1 hS.2.1.2 (by omega)
    exact this.mono (by omega) (by omega) (by omega) (by omega) (by omega)
  have hot := hI3.hot hP hr0 (show r < 8 by omega)
  have hot0 := (hI3.1.1 r hr0 (by omega)).2.1
  have pm2' : FS 28 (yrF σ i z) F3 A3 := pm2
  refine b_X10_parts_52 x3.1.1 ?_
  rw [show A3 (28 + 19) = (yrF σ i z) 1 from pm2'.2.1]
  refine ⟨hr0, by omega, by omega, fun A4 hA4 => ?_⟩
  have x4 : TX l F3 A3 F3 A4 := ⟨fun a h1 h2 => by rw [hA4, st2_n (by omega)], fun _ _ _ => rfl⟩
  have hF4 : FS 28 (addH r w (yrF σ i z)) F3 A4 := by
    obtain ⟨e0, e1, e2, e3, f5, f6, f7, f8⟩ := pm2'
    rw [hA4]
    unfold addH
    refine ⟨?_, ?_, ?_, ?_, ?_, ?_, ?_, ?_⟩
    · rw [st2_n (by decide), st2_n (by decide)]; exact e0
    · rw [st2_s, st2_s, e1]
    · rw [st2_n (by decide), st2_n (by decide)]; exact e2
    · rw [st2_n (by decide), st2_n (by decide)]; exact e3
    · rw [st2_n (by decide)]; exact f5
    · rw [st2_n (by decide)]; exact f6
    · rw [st2_n (by decide)]; exact f7
    · rw [st2_n (by decide)]; exact f8
  have c4 := x4.cq x3.1 x3.2.1
  have hI4 : Iv (σ.2.1 i) (19512 + 999) 1920 240 2712 792 (addH r w (yrF σ i z)) := (addH_iv hI3 hP hr0 hr1 (by omega)).mono (by omega) (by omega) (by omega) (by omega) (by omega)
  have hq1 : SEq True True (σ.2.1 i) (addH r w (yrF σ i z)) (ptZ σ i r w 1) := addH_cong ((tick_cong hP PEq.refl z3).weak (fun _ => trivial) id) hr0 (by omega)
  have hrun : ∀ t, SEq True True (σ.2.1 i) (itS (yrF σ i) t (addH r w (yrF σ i z))) (itS (yrF σ i) t (ptZ σ i r w 1)) := by
    intro t
    induction t with
    | zero => exact hq1
    | succ t ih =>
      have := tick_cong (L := LwF σ.2.2) (cw := σ.1 0 1) (jn := 1) (lr := -1) (lg := 0) hP PEq.refl ih
      exact this.weak (fun _ => trivial) id
  refine w_rtp (k := k + 1) (N := n.toNat - 1) (first := 2) (T := ptT σ i r w) hS c4.1 c4.2.1 hi (by omega) (by omega) (by omega) (by omega) (by omega) (hT3.tx x4 hF4) hI4 (by omega) (by omega) (by omega) (by omega) (fun t h1 h2 => ?_) (fun t h1 h2 => ?_) fun F5 A5 v1 v2 v3 v4 => b_X10_parts_75 v1.1.1 fun g1 hg1 => ?_
  · have : t = 1 := by omega
    subst this
    refine ⟨?_, by have := (ptT_b hS hi hr0 hr1 (show 0 ≤ w by omega) (show w ≤ 999 by omega) 1).2; omega⟩
    have h3 := p2 1 (by omega) (by omega)
    have e55 : A4 55 ((1 : Nat) : Int) = A3 55 ((1 : Nat) : Int) := by rw [hA4, st2_n (by decide)]
    rw [e55]
    have h4 : A3 55 ((1 : Nat) : Int) = yrF σ i z 9 15 := h3
    rw [h4]
    have h5 := hq1.2.2.1 trivial
    rw [addH_9] at h5
    exact h5
  · show ptZ σ i r w (((2 : Int) - 1).toNat + t) 9 15 = _
    rw [show ((2 : Int) - 1).toNat + t = t + 1 by omega, ptZ_it]
    exact ((hrun t).2.2.1 trivial).symm
  · rw [show ((n.toNat : Nat) : Int).toNat = n.toNat by omega] at v2
    have e58 : F5 58 3 = min (cnN (σ.1 0 2) (th σ i) n.toNat) 200 := by
      rw [v4, p1.2 _ _ (by omega), z7 _ _ (by decide)]; exact y3.1
    have b1 := cn_nn (hi := σ.1 0 2) (T := th σ i) n.toNat
    have b2 := cn_nn (hi := σ.1 0 2) (T := ptT σ i r w) n.toNat
    have hl := hB.2.2.1
    unfold lawD at hl
    rw [hg1, e58, v2.1]
    have hcc := (((y1.trans z1).trans x3).trans c4).trans v1
    refine c_partsL (x0 := 0) (f1 := psN (σ.1 0 2) (th σ i) n.toNat 0) (f2 := psN (σ.1 0 2) (ptT σ i r w) n.toNat 0) v1.1.1 e58 v2.1 (by omega) (by omega) (fun j j0 j1 => ?_) (fun j j0 j1 => (v2.2 j j0 j1).1) 201 0 (by omega) (by omega) ?_
    · rw [v3 _ (by omega)]
      show A4 59 j = _
      rw [hA4, st2_n (by decide), p1.1 _ (by omega) (by omega), z6 _ (by omega)]
      exact (y3.2 j j0 j1).1
    · have hv := hq F5 A5 R2 hcc
      unfold ansParts at hv
      rw [if_pos (by rw [ei]; omega), ei] at hv
      exact hv
theorem r_cmpL {X : Int × (Int → Int)} {k : Nat} {Q : Vv → Fn2 → Fn2 → Fn2 → Prop} {R : Fn2} {c1 c2 x1 x2 x3 x4 : Int} {f1 f2 : Int → Int} {F A : Fn2} (hR : RS R) (h2 : F 373 61 = c2) (b1 : 0 ≤ c1 ∧ c1 ≤ 200) (b2 : 0 ≤ c2 ∧ c2 ≤ 200) (e1 : ∀ i, 0 ≤ i → i < c1 → A 423 i = f1 i) (e2 : ∀ i, 0 ≤ i → i < c2 → A 405 i = f2 i) : ∀ (m : Nat) (i : Int), 0 ≤ i → 200 < i + m → Q (vI (ptN c1 c2 f1 f2 m i)) F A R → G X k m_X11_parts Q 148 [vA 373, vI x1, vI x2, vI x3, vI x4, vI c1, vI i] [] F A R
  | 0, i, h0, hm, hq => by
    refine b_X11_parts_148 hR ?_
    rw [h2]
    exact ⟨fun h => by omega, fun _ => ⟨fun _ => hq, fun h => by omega⟩⟩
  | m + 1, i, h0, hm, hq => by
    unfold ptN at hq
    have tl : i < max c1 c2 → (¬ i < c1 → ((-2147483648 ≤ i + 1 ∧ i + 1 ≤ 2147483647) ∧ Q (vI (i + 1)) F A R)) ∧ (i < c1 → ((¬ i < c2 → ((-2147483648 ≤ i + 1 ∧ i + 1 ≤ 2147483647) ∧ Q (vI (i + 1)) F A R)) ∧ (i < c2 → (0 ≤ i ∧ i < 200 ∧ ((A 405 i = A 423 i → ((-2147483648 ≤ i + 1 ∧ i + 1 ≤ 2147483647) ∧ G X k m_X11_parts Q 148 [vA 373, vI x1, vI x2, vI x3, vI x4, vI c1, vI (i + 1)] [] F A R)) ∧ (¬ (A 405 i = A 423 i) → ((-2147483648 ≤ i + 1 ∧ i + 1 ≤ 2147483647) ∧ Q (vI (i + 1)) F A R))))))) := by
      intro h
      rw [if_pos h] at hq
      refine ⟨fun h3 => ⟨by omega, ?_⟩, fun h3 => ⟨fun h4 => ⟨by omega, ?_⟩, fun h4 => ⟨h0, by omega, ?_⟩⟩⟩
      · rwa [if_neg (by omega)] at hq
      · rwa [if_neg (by omega)] at hq
      · rw [e1 i h0 h3, e2 i h0 h4]
        refine ⟨fun h5 => ⟨by omega, ?_⟩, fun h5 => ⟨by omega, ?_⟩⟩
        · rw [if_pos ⟨h3, h4, h5.symm⟩] at hq
          exact r_cmpL hR h2 b1 b2 e1 e2 m (i + 1) (by omega) (by omega) hq
        · rwa [if_neg (fun h' => h5 h'.2.2.symm)] at hq
    refine b_X11_parts_148 hR ?_
    rw [h2]
    refine ⟨fun h => tl (by omega), fun h => ⟨fun h3 => ?_, fun h3 => tl (by omega)⟩⟩
    rwa [if_neg (by omega)] at hq
theorem r_copyL {X : Int × (Int → Int)} {k : Nat} {Q : Vv → Fn2 → Fn2 → Fn2 → Prop} {R : Fn2} {x1 x2 x3 x4 c1 : Int} {f1 : Int → Int} {F A0 : Fn2} (hR : RS R) (b1 : 0 ≤ c1 ∧ c1 ≤ 200) (e1 : ∀ i, 0 ≤ i → i < c1 → A0 405 i = f1 i) (hq : ∀ A' w, (∀ i, 0 ≤ i → i < c1 → A' 423 i = f1 i) → (∀ a, a ≠ 423 → A' a = A0 a) → Wp X k m_X11_begin [vA 373, vI x1] F A' R (fun v F A R => G X k m_X11_parts Q 87 [vA 373, vI x1, vI x2, vI x3, vI x4, vI c1, vI w] [] F A R)) : ∀ (m : Nat) (j : Int) (A : Fn2), 0 ≤ j → j + m = c1 → (∀ i, 0 ≤ i → i < j → A 423 i = f1 i) → (∀ a, a ≠ 423 → A a = A0 a) → G X k m_X11_parts Q 55 [vA 373, vI x1, vI x2, vI x3, vI x4, vI c1, vI j] [] F A R
  | 0, j, A, hj, hm, h1, h2 => b_X11_parts_55 hR ⟨fun _ => hq A j (fun i a b => h1 i a (by omega)) h2, fun h => absurd h (by omega)⟩
  | m + 1, j, A, hj, hm, h1, h2 => by
    refine b_X11_parts_55 hR ⟨fun h => by omega, fun _ => ⟨hj, by omega, fun A1 hA1 => ⟨by omega, ?_⟩⟩⟩
    refine r_copyL hR b1 e1 hq m (j + 1) A1 (by omega) (by omega) (fun i a b => ?_) (fun a ha => by rw [hA1, st2_n ha]; exact h2 a ha)
    rw [hA1, st2_s]
    by_cases e : i = j
    · subst e; rw [u1_s, h2 405 (by decide)]; exact e1 _ a (by omega)
    · rw [u1_n e]; exact h1 i a (by omega)
theorem r_partL {X : Int × (Int → Int)} {k : Nat} {Q : Vv → Fn2 → Fn2 → Fn2 → Prop} {R : Fn2} {σ : Sg} {b : Int → Int} {i N : Nat} {r w c1 x6 : Int} {P' F0 A0 : Fn2} (hR : RS R) (hS : SgI σ) (hi : i < 4) (hN : N ≤ 1000) (hN1 : 1 ≤ N) (h0 : 0 ≤ r) (hr : r < σ.2.1 i 0 0) (hw : 1 ≤ w) (hw2 : w ≤ 999) (hP' : WFP P') (he : PEq (σ.2.1 i) P') (h56 : F0 373 56 = σ.1 0 2) (hq : ∀ F' A', RXB F0 A0 F' A' → F' 373 61 = min (cnN (σ.1 0 2) (ptT σ i r w) N) 200 → PlR 405 406 407 (psN (σ.1 0 2) (ptT σ i r w) N) A' → G X (k + 6) m_X11_parts Q 148 [vA 373, vI i, vI r, vI w, vI N, vI c1, vI 0] [] F' A' R) : ∀ (m t : Nat) (s F A : Fn2) (x6 : Int), t + m = N → RXB F0 A0 F A → RQ (b i) (σ.1 0 1) 1 t P' σ.2.2 s F A → SEq True True (σ.2.1 i) (ptZ σ i r w t) s → Iv P' (19512 * t + 999) 1920 (240 * t) (2712 * t) (792 * t) s → RPl (σ.1 0 2) (ptT σ i r w) t F A → G X (k + 6) m_X11_parts Q 91 [vA 373, vI i, vI r, vI w, vI N, vI c1, vI x6] [] F A R
  | 0, t, s, F, A, x6, hm, hX, hrq, hsq, hI, hp => by
    have e : t = N := by omega
    subst e
    refine b_X11_parts_91 ?_
    rw [hrq.2.2.2.2.2, hp.1]
    refine ⟨fun _ => x_lesser (k := k + 5) (b_X11_parts_142 fun F1 hF1 => ?_), fun hx => by omega⟩
    refine hq F1 A ⟨hX.1, fun x f hx => ?_⟩ (by rw [hF1, st2_s, u1_s]; rfl) hp.2.2
    rw [hF1]
    by_cases e : x = 373
    · subst e; rw [st2_s, u1_n (by omega)]; exact hX.2 _ f hx
    · rw [st2_n e]; exact hX.2 x f hx
  | m + 1, t, s, F, A, x6, hm, hX, hrq, hsq, hI, hp => by
    have hP := hS.2.2.2.2.2.2.1 i hi
    have h8 := hP.1
    have hb3 := ptT_b hS hi h0 hr (show 0 ≤ w by omega) hw2 (t + 1)
    refine b_X11_parts_91 ?_
    rw [hrq.2.2.2.2.2]
    refine ⟨fun hx => by omega, fun _ => ?_⟩
    refine x_sec (k := k) hR hP' hI (by omega) (by omega) (by omega) (by omega) hS.2.1.1 hS.2.1.2 (by omega) (by omega) hrq fun F1 A1 y1 y2 y3 y4 y5 => b_X11_parts_104 ?_
    have hI0 := iv_tick0 (jn := 1) (L := LwF σ.2.2) hI hP' LwF_ok hS.2.1.1 hS.2.1.2
    have hsq1 : SEq True True (σ.2.1 i) (yrF σ i (ptZ σ i r w t)) (tick0 P' (LwF σ.2.2) (σ.1 0 1) 1 s) := by
      have := tick0_cong (L := LwF σ.2.2) (cw := σ.1 0 1) (jn := 1) hP he hsq
      have e : yrF σ i (ptZ σ i r w t) = tick0 (σ.2.1 i) (LwF σ.2.2) (σ.1 0 1) 1 (ptZ σ i r w t) := by
        show tickA (σ.2.1 i) (LwF σ.2.2) (σ.1 0 1) 1 (-1) 0 (ptZ σ i r w t) = _
        exact tick_led0 (by omega)
      rw [e]; exact this
    have eT : ptT σ i r w (t + 1) = tick0 P' (LwF σ.2.2) (σ.1 0 1) 1 s 9 15 := by
      rw [← hsq1.2.2.1 trivial]
      unfold ptT
      cases t with
      | zero => show addH r w _ 9 15 = _; rw [addH_9]; rfl
      | succ t => rfl
    have e51 : F1 373 51 = ptT σ i r w (t + 1) := by rw [eT]; exact y1.2.1.2.2.2.1
    have x1 := hX.trans y2.b
    refine x_see (k := k + 5) (hi := σ.1 0 2) (T := ptT σ i r w (t + 1)) (t := t) (p := psN (σ.1 0 2) (ptT σ i r w) t) hR (plI t) (by omega) (by omega) e51 (by omega) y1.2.2.2.2.2 (by rw [x1.2 _ _ (by omega)]; exact h56) (by rw [y4]; exact hp.1) (by rw [y5]; exact hp.2.1) (fun i a b => by rw [y3 _ (by omega) (by omega), y3 _ (by omega) (by omega), y3 _ (by omega) (by omega)]; exact hp.2.2 i a b) fun F2 A2 z1 z2 z3 z4 z5 => ?_
    have x2 : RX F1 A1 F2 A2 := ⟨fun a ha => z4 a (by omega), fun x f hx => z5 x f (by omega)⟩
    have hrq2 : RQ (b i) (σ.1 0 1) 1 ((t : Int) + 1) P' σ.2.2 (tick0 P' (LwF σ.2.2) (σ.1 0 1) 1 s) F2 A2 := by
      obtain ⟨g1, ⟨k1, k2, k3, k4, k5, k6⟩, g3, g4, g5, g6⟩ := y1
      refine ⟨g1.rx x2, ⟨?_, ?_, ?_, ?_, ?_, ?_⟩, ?_, ?_, ?_, ?_⟩
      · rw [z4 _ (by omega)]; exact k1
      · rw [z4 _ (by omega)]; exact k2
      · rw [z4 _ (by omega)]; exact k3
      · rw [z5 _ _ (by omega)]; exact k4
      · rw [z5 _ _ (by omega)]; exact k5
      · rw [z5 _ _ (by omega)]; exact k6
      · rw [z5 _ _ (by omega)]; exact g3
      · rw [z5 _ _ (by omega)]; exact g4
      · rw [z5 _ _ (by omega)]; exact g5
      · rw [z5 _ _ (by omega)]; exact g6
    have hpl2 : RPl (σ.1 0 2) (ptT σ i r w) (t + 1) F2 A2 := ⟨z1, z2, z3⟩
    have x3 := x1.trans x2.b
    refine b_X11_parts_108 hR ?_
    rw [hrq2.2.2.2.2.2]
    refine ⟨fun hne => ?_, fun heq => ?_⟩
    · obtain ⟨t', et⟩ : ∃ t', t = t' + 1 := ⟨t - 1, by omega⟩
      subst et
      exact r_partL (x6 := x6) hR hS hi hN hN1 h0 hr hw hw2 hP' he h56 hq m (t' + 1 + 1) _ F2 A2 _ (by omega) x3 hrq2 hsq1 (hI0.mono (by omega) (by omega) (by omega) (by omega) (by omega)) hpl2
    · have : t = 0 := by omega
      subst this
      have hot := hI0.hot hP' h0 (show r < 8 by omega)
      have hot0 := (hI0.1.1 r h0 (by omega)).2.1
      rw [show A2 399 = (tick0 P' (LwF σ.2.2) (σ.1 0 1) 1 s) 1 from hrq2.2.1.2.1]
      refine ⟨h0, by omega, by omega, fun A3 hA3 => ?_⟩
      have x4 : RX F2 A2 F2 A3 := ⟨fun a ha => by rw [hA3, st2_n (by omega)], fun _ _ _ => rfl⟩
      have hrq3 : RQ (b i) (σ.1 0 1) 1 ((0 + 1 : Nat) : Int) P' σ.2.2 (addH r w (tick0 P' (LwF σ.2.2) (σ.1 0 1) 1 s)) F2 A3 := by
        obtain ⟨g1, ⟨k1, k2, k3, k4, k5, k6⟩, g3, g4⟩ := hrq2
        refine ⟨g1.rx x4, ⟨?_, ?_, ?_, ?_, ?_, ?_⟩, ?_, g4⟩
        · rw [hA3]; unfold addH; rw [st2_n (by decide), st2_n (by decide)]; exact k1
        · rw [hA3]; unfold addH; rw [st2_s, st2_s, k2]
        · rw [hA3]; unfold addH; rw [st2_n (by decide), st2_n (by decide)]; exact k3
        · rw [addH_9]; exact k4
        · rw [addH_9]; exact k5
        · rw [addH_9]; exact k6
        · rw [addH_9]; exact g3
      refine r_partL (x6 := x6) hR hS hi hN hN1 h0 hr hw hw2 hP' he h56 hq m 1 _ F2 A3 _ (by omega) (x3.trans x4.b) hrq3 (addH_cong hsq1 h0 (by omega)) ?_ ⟨hpl2.1, hpl2.2.1, fun j a b => by rw [hA3, st2_n (by decide), st2_n (by decide), st2_n (by decide)]; exact hpl2.2.2 j a b⟩
      have hI1 : Iv P' 19512 1920 240 2712 792 (tick0 P' (LwF σ.2.2) (σ.1 0 1) 1 s) := by
        have hz : Iv (σ.2.1 i) (19512 * (0 : Nat)) 1920 (240 * (0 : Nat)) (2712 * (0 : Nat)) (792 * (0 : Nat)) (zeroS (σ.2.1 i 5)) := iv_run (L := LwF σ.2.2) (cw := σ.1 0 1) (jn := 1) (lr := -1) (lg := 0) hP LwF_ok hS.2.1.1 hS.2.1.2 (by omega) (fun x a b => by have := hP.2.1 x a b; omega) 0
        have hp0 : pot s = 0 := by
          have : pot s = pot (zeroS (σ.2.1 i 5)) := by
            unfold pot
            refine sm_cong 8 fun x a b => ?_
            have h := hsq.1 x a b
            show pp (s 0 x) (s 1 x) = pp (ptZ σ i r w 0 0 x) (ptZ σ i r w 0 1 x)
            rw [h.1, h.2]
          rw [this]
          unfold pot; simp [sm, pp, zeroS]
        have hI' : Iv P' 0 1920 0 0 0 s := ⟨hI.1, by rw [hp0]; exact Int.le_refl _, by have := hI.2.2; unfold Bk at this ⊢; omega⟩
        have := iv_tick0 (jn := 1) (L := LwF σ.2.2) hI' hP' LwF_ok hS.2.1.1 hS.2.1.2
        exact this.mono (by omega) (by omega) (by omega) (by omega) (by omega)
      exact (addH_iv hI1 hP' h0 (by rw [← he.1]; exact hr) (by omega)).mono (by omega) (by omega) (by omega) (by omega) (by omega)
theorem r_parts {X : Int × (Int → Int)} {k : Nat} {Q : Vv → Fn2 → Fn2 → Fn2 → Prop} {F A R : Fn2} {σ : Sg} {b : Int → Int} {s r w n : Int} (hR : RS R) (hS : SgI σ) (hX : XI σ b F A) (hq : ∀ F' A', XI σ b F' A' → RF F A F' A' → Q (vI (ansParts σ s r w n)) F' A' R) : Wp X (k + 9) m_X11_parts [vA 373, vI s, vI r, vI w, vI n] F A R Q := by
  have no : ¬ ((0 ≤ s ∧ s < 4) ∧ (1 ≤ w ∧ w ≤ 999) ∧ (1 ≤ n ∧ n ≤ 1000) ∧ 0 ≤ r ∧ r < σ.2.1 s.toNat 0 0) → Q (vI (-1)) F A R := by
    intro h
    have := hq F A hX RF.refl
    unfold ansParts at this; rwa [if_neg h] at this
  refine Wp.of [vA 373, vI s, vI r, vI w, vI n, vN, vN] rfl rfl rfl (b_X11_parts_0 (x_isShelf (k := k + 7) (fun h0 h4 => ?_) (fun h => b_X11_parts_4 ⟨fun _ => no (fun h' => h h'.1), fun h => absurd rfl h⟩)))
  refine b_X11_parts_4 ⟨fun h => absurd h (by decide), fun _ => x_isIn (k := k + 7) (fun w0 w1 => ?_) (fun h => b_X11_parts_15 ⟨fun _ => no (fun h' => h h'.2.1), fun h => absurd rfl h⟩)⟩
  refine b_X11_parts_15 ⟨fun h => absurd h (by decide), fun _ => x_isCourse (k := k + 6) (fun n0 n1 => ?_) (fun h => b_X11_parts_23 ⟨fun h => absurd rfl h, fun _ => no (fun h' => h h'.2.2.1)⟩)⟩
  have hi : s.toNat < 4 := by omega
  have es : s = (s.toNat : Int) := by omega
  have en : n = (n.toNat : Int) := by omega
  refine b_X11_parts_23 ⟨fun _ => ?_, fun h => absurd h (by decide)⟩
  rw [es]
  refine x_isRoom (k := k + 6) hR hX hi (fun r0 r1 => b_X11_parts_34 ⟨fun _ => ?_, fun h => absurd h (by decide)⟩) (fun h => b_X11_parts_34 ⟨fun h => absurd rfl h, fun _ => no (fun h' => h h'.2.2.2)⟩)
  rw [en]
  refine x_courseOf (k := k) hR hS hX hi (by omega) fun F1 A1 hX1 y2 y3 y4 _ _ _ => b_X11_parts_46 fun g1 hg1 => ?_
  rw [hg1, y3]
  have b1 := cn_nn (hi := σ.1 0 2) (T := th σ s.toNat) n.toNat
  have b2 := cn_nn (hi := σ.1 0 2) (T := ptT σ s.toNat r w) n.toNat
  refine r_copyL (c1 := min (cnN (σ.1 0 2) (th σ s.toNat) n.toNat) 200) (f1 := psN (σ.1 0 2) (th σ s.toNat) n.toNat 0) (A0 := A1) hR (by omega) (fun j j0 j1 => (y4 j j0 j1).1) (fun A2 w2 z1 z2 => ?_) (min (cnN (σ.1 0 2) (th σ s.toNat) n.toNat) 200).toNat 0 A1 (by omega) (by omega) (fun j a b => by omega) (fun _ _ => rfl)
  have x2 : RF F1 A1 F1 A2 := ⟨fun a ha => z2 a (by omega), fun _ _ => rfl, fun _ _ => rfl⟩
  have hX2 := hX1.rf x2
  have he := (hX2.2.2.1 s.toNat hi).2.1
  have hP' := (hX2.2.2.1 s.toNat hi).2.2
  refine x_beginX (k := k + 7) hR hX2 hi fun F3 A3 z x3 hX3 hrq hz hI h56 h57 hw hf hA => b_X11_parts_87 (Wp.of (k := k + 7) [vA 373] rfl rfl rfl (b_X11_beginPlays_0 fun F4 h4' F5 h5 => ?_))
  have x5 : RX F3 A3 F5 A3 := ⟨fun _ _ => rfl, fun x f hx => by
    rw [h5, h4']
    by_cases e : x = 373
    · subst e; rw [st2_s, u1_n (by omega), st2_s, u1_n (by omega)]
    · rw [st2_n e, st2_n e]⟩
  have hrq5 : RQ (b s.toNat) (σ.1 0 1) 1 0 (RPm (b s.toNat) A2) σ.2.2 z F5 A3 := by
    obtain ⟨g1, ⟨k1, k2, k3, k4, k5, k6⟩, g3, g4, g5, g6⟩ := hrq
    refine ⟨g1.rx x5, ⟨k1, k2, k3, ?_, ?_, ?_⟩, ?_, ?_, ?_, ?_⟩ <;> rw [h5, h4'] <;> simp only [ne_eq, Int.add_right_inj, Int.reduceEq, not_false_eq_true, st2_n, st2_s, u1_s, u1_u1, u1_n] <;> assumption
  refine r_partL (k := k + 2) (x6 := 0) (F0 := F5) (A0 := A3) hR hS hi (show n.toNat ≤ 1000 by omega) (by omega) r0 r1 w0 w1 hP' he (by rw [h5, h4']; simp only [ne_eq, Int.add_right_inj, Int.reduceEq, not_false_eq_true, st2_n, st2_s, u1_s, u1_u1, u1_n]; exact h56) (fun F6 A6 v1 v2 v3 => ?_) n.toNat 0 z F5 A3 w2 (by omega) RXB.refl hrq5 ?_ (hI.mono (by omega) (by omega) (by omega) (by omega) (by omega)) ⟨?_, ?_, fun j a b => by simp [psN] at b; omega⟩
  · refine r_cmpL (c1 := min (cnN (σ.1 0 2) (th σ s.toNat) n.toNat) 200) (c2 := min (cnN (σ.1 0 2) (ptT σ s.toNat r w) n.toNat) 200) (f1 := psN (σ.1 0 2) (th σ s.toNat) n.toNat 0) (f2 := psN (σ.1 0 2) (ptT σ s.toNat r w) n.toNat 0) hR v2 (by omega) (by omega) (fun j j0 j1 => ?_) (fun j j0 j1 => (v3 j j0 j1).1) 201 0 (by omega) (by omega) ?_
    · rw [v1.1 423 (by omega), hA 423 (by omega)]; exact z1 j j0 j1
    · have x6 := ((((y2.trans x2).trans x3).trans x5.b.rf).trans v1.rf)
      have hv := hq F6 A6 (hX.rf x6) x6
      unfold ansParts at hv
      rw [if_pos ⟨⟨h0, h4⟩, ⟨w0, w1⟩, ⟨n0, n1⟩, r0, r1⟩] at hv
      exact hv
  · have h1 : SEq True True (σ.2.1 s.toNat) (ptZ σ s.toNat r w 0) (zeroS (RPm (b s.toNat) A2 5)) := ⟨fun _ _ _ => ⟨rfl, rfl⟩, fun r a b' => (he.2.2.1 r a b').2.2.2.1, fun _ => rfl, fun _ => ⟨rfl, rfl, rfl⟩⟩
    exact h1.trans ((hz.of0 he.1.symm).symm)
  · rw [h5, h4']; simp only [ne_eq, Int.add_right_inj, Int.reduceEq, not_false_eq_true, st2_n, st2_s, u1_s, u1_u1, u1_n]; rfl
  · rw [h5]; simp only [ne_eq, Int.add_right_inj, Int.reduceEq, not_false_eq_true, st2_n, st2_s, u1_s, u1_u1]; rfl
