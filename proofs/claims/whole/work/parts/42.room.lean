/-! room, book, plays, play, stolen -/
theorem x_isShelf {X : Int × (Int → Int)} {k : Nat} {Q : Vv → Fn2 → Fn2 → Fn2 → Prop} {F A R : Fn2} {s : Int} (hq : 0 ≤ s → s < 4 → Q (vI 1) F A R) (hq' : ¬ (0 ≤ s ∧ s < 4) → Q (vI 0) F A R) : Wp X (k + 1) m_X11_isShelf [vI s] F A R Q :=
  Wp.of [vI s] rfl rfl rfl (b_X11_isShelf_0 ⟨fun h => hq' (by omega), fun h => ⟨fun h2 => hq' (by omega), fun h2 => hq (by omega) h2⟩⟩)
theorem x_isIn {X : Int × (Int → Int)} {k : Nat} {Q : Vv → Fn2 → Fn2 → Fn2 → Prop} {F A R : Fn2} {v a b : Int} (hq : a ≤ v → v ≤ b → Q (vI 1) F A R) (hq' : ¬ (a ≤ v ∧ v ≤ b) → Q (vI 0) F A R) : Wp X (k + 1) m_X11_isIn [vI v, vI a, vI b] F A R Q :=
  Wp.of [vI v, vI a, vI b] rfl rfl rfl (b_X11_isIn_0 ⟨fun h => hq' (by omega), fun h => ⟨fun h2 => hq' (by omega), fun h2 => hq (by omega) (by omega)⟩⟩)
theorem x_isCourse {X : Int × (Int → Int)} {k : Nat} {Q : Vv → Fn2 → Fn2 → Fn2 → Prop} {F A R : Fn2} {n : Int} (hq : 1 ≤ n → n ≤ 1000 → Q (vI 1) F A R) (hq' : ¬ (1 ≤ n ∧ n ≤ 1000) → Q (vI 0) F A R) : Wp X (k + 2) m_X11_isCourse [vI n] F A R Q :=
  Wp.of [vI n] rfl rfl rfl (b_X11_isCourse_0 (x_isIn (k := k) (fun h1 h2 => b_X11_isCourse_8 ⟨by omega, by omega, hq h1 h2⟩) (fun h => b_X11_isCourse_8 ⟨by omega, by omega, hq' h⟩)))
theorem x_isRoom {X : Int × (Int → Int)} {k : Nat} {Q : Vv → Fn2 → Fn2 → Fn2 → Prop} {F A R : Fn2} {σ : Sg} {b : Int → Int} {r : Int} {i : Nat} (hR : RS R) (hX : XI σ b F A) (hi : i < 4) (hq : 0 ≤ r → r < σ.2.1 i 0 0 → Q (vI 1) F A R) (hq' : ¬ (0 ≤ r ∧ r < σ.2.1 i 0 0) → Q (vI 0) F A R) : Wp X (k + 2) m_X11_isRoom [vA 373, vI i, vI r] F A R Q := by
  obtain ⟨h1, h2, h3⟩ := hX.2.2.1 i hi
  have h4 := hX.1 i (by omega) (by omega)
  have h5 : A 377 (b i) = σ.2.1 i 0 0 := by rw [← RPm_0 (A := A)]; exact h2.1.symm
  have h6 := h3.1
  rw [← h2.1] at h6
  refine Wp.of [vA 373, vI i, vI r] rfl rfl rfl (b_X11_isRoom_0 hR ?_)
  rw [h1, h5]
  exact ⟨by omega, by omega, by omega, by omega, by omega, x_isIn (k := k) (fun h1 h2 => b_X11_isRoom_18 ⟨by omega, by omega, hq h1 (by omega)⟩) (fun h => b_X11_isRoom_18 ⟨by omega, by omega, hq' (by omega)⟩)⟩
theorem SEq.of0 {τ β : Prop} {P P' s s' : Fn2} (h : SEq τ β P s s') (e : P 0 0 = P' 0 0) : SEq τ β P' s s' := ⟨h.1, fun r a b => h.2.1 r a (by omega), h.2.2⟩
/-- the reference's second n is the class's -/
theorem rz {σ : Sg} {b : Int → Int} {F A z : Fn2} {i N : Nat} (hS : SgI σ) (hX : XI σ b F A) (hi : i < 4) (h : SEq True True (RPm (b i) A) z (rnS (RPm (b i) A) σ.2.2 (σ.1 0 1) N)) : SEq True True (σ.2.1 i) (zz σ i N) z := by
  have hP := hS.2.2.2.2.2.2.1 i hi
  have he := (hX.2.2.1 i hi).2.1
  have h1 : SEq True True (σ.2.1 i) (zz σ i N) (rnS (RPm (b i) A) σ.2.2 (σ.1 0 1) N) := run_cong hP he (fun r a b => (he.2.2.1 r a b).2.2.2.1) N
  exact h1.trans ((h.of0 he.1.symm).symm)
def ansRoom (σ : Sg) (s n r w : Int) : Int :=
  if (0 ≤ s ∧ s < 4) ∧ (0 ≤ n ∧ n ≤ 1000) ∧ 0 ≤ r ∧ r < σ.2.1 s.toNat 0 0 then
    (if w = 0 then zz σ s.toNat n.toNat 0 r else if w = 1 then zz σ s.toNat n.toNat 1 r else if w = 2 then wmf (zz σ s.toNat n.toNat 0 r) (zz σ s.toNat n.toNat 1 r) else if w = 3 then lwAt (LwF σ.2.2 0) (σ.2.1 s.toNat) (zz σ s.toNat n.toNat) r else -1)
  else -1
theorem c_room {X : Int × (Int → Int)} {k : Nat} {Q : Vv → Fn2 → Fn2 → Fn2 → Prop} {F A R : Fn2} {σ : Sg} {q : Int → Int} {l s n r w : Int} (hS : SgI σ) (hB : CB σ q l F A R) (hC : CC σ q l F A R) (hq : ∀ F' A' R', CQ σ q l F A R F' A' R' → Q (vI (ansRoom σ s n r w)) F' A' R') : Wp X (k + 9) m_X10_room [vA 0, vI s, vI n, vI r, vI w] F A R Q := by
  refine Wp.of [vA 0, vI s, vI n, vI r, vI w, vN] rfl rfl rfl (b_X10_room_0 (w_isRoom (k := k + 6) hB (fun i hi hs hr0 hr1 => ?_) (fun hno => ?_)))
  · subst hs
    have hi' : ((i : Int)).toNat = i := by omega
    have hP := hS.2.2.2.2.2.2.1 i hi
    have h8 := hP.1
    refine b_X10_room_6 ⟨fun h => absurd h (by decide), fun _ => ⟨fun h => ?_, fun hn0 => ⟨fun hn1 => ?_, fun h => ?_⟩⟩⟩
    · have := hq F A R (CQ.refl hB hC)
      unfold ansRoom at this; rwa [if_neg (by omega)] at this
    · refine w_upTo (k := k) hS hB hC hi (by omega) (by omega) fun F' A' R' y1 y2 => ?_
      have hk := y2 n.toNat (by omega)
      rw [show ((n.toNat : Nat) : Int) = n by omega] at hk
      have hz := zz_w hS hi n.toNat hr0 (by omega)
      have hst := y1.1.std hi
      have h7 := y1.1.2.2.2.2.2.2.1 i hi
      have hv := hq F' A' R' y1
      unfold ansRoom at hv
      rw [if_pos (by rw [hi']; omega), hi'] at hv
      obtain ⟨e0, e1⟩ := hk.1 r hr0 (by omega)
      refine b_X10_room_28 y1.1.1 (crs_at hi) y1.1.2.2.2.2.1 hst.2.1 ⟨fun h => ?_, fun h0 => ⟨fun h => ?_, fun h1 => ⟨fun h => ?_, fun h2 => ⟨fun h => ?_, fun h3 => ?_⟩⟩⟩⟩
      · rw [if_pos h] at hv
        rw [e0]; exact ⟨by omega, by omega, by omega, by omega, hv⟩
      · rw [if_neg h0, if_pos h] at hv
        rw [e1]; exact ⟨by omega, by omega, by omega, by omega, hv⟩
      · rw [if_neg h0, if_neg h1, if_pos h] at hv
        exact w_warmAt (k := k + 6) y1.1.1 (crs_at hi) (by omega) (by omega) hr0 (by omega) hk hz.2.2 (b_X10_room_97 (crs_at hi) hv)
      · rw [if_neg h0, if_neg h1, if_neg h2, if_pos h] at hv
        refine w_boilAt (k := k + 4) (P := σ.2.1 i) (q := q i) (C := σ.2.2) y1.1.1 (crs_at hi) (by omega) (by omega) hr0 hr1 hk h7.1 hst hP (fun r a b => by have := zz_w hS hi n.toNat a (show r < 8 by omega); omega) hz.2.2 fun S' => b_X10_room_109 (crs_at hi) ?_
        have hl := hB.2.2.1
        have hx : QF F' A' R' F' (up2 A' (l + 4) S') R' := by
          unfold lawD at hl
          refine ⟨fun a ha => up2_n ?_, fun _ _ _ => rfl, fun _ _ _ _ _ _ _ => rfl, fun h => ?_, y1.1.1, fun a ha => ⟨up2_n (by omega), rfl⟩⟩
          · unfold isB at ha; omega
          · rw [up2_n (by omega)]; exact h
        have y3 : CQ σ q l F' A' R' F' (up2 A' (l + 4) S') R' := by
          unfold lawD at hl
          exact ⟨y1.1.qf hx, y1.2.1.of (fun a h1 h2 h3 h4 h5 => up2_n (by omega)) (fun i hi => ⟨rfl, fun f => ⟨rfl, rfl⟩⟩), hx, fun _ => rfl, fun _ => rfl, fun a h1 h2 => up2_n (by omega)⟩
        have hv := hq F' (up2 A' (l + 4) S') R' (y1.trans y3)
        unfold ansRoom at hv
        rw [if_pos (by rw [hi']; omega), hi', if_neg h0, if_neg h1, if_neg h2, if_pos h] at hv
        exact hv
      · rw [if_neg h0, if_neg h1, if_neg h2, if_neg h3] at hv
        exact hv
    · have := hq F A R (CQ.refl hB hC)
      unfold ansRoom at this; rwa [if_neg (by omega)] at this
  · refine b_X10_room_6 ⟨fun _ => ?_, fun h => absurd rfl h⟩
    have := hq F A R (CQ.refl hB hC)
    unfold ansRoom at this
    rwa [if_neg (fun h => hno ⟨s.toNat, by omega, by omega, h.2.2⟩)] at this
theorem r_room {X : Int × (Int → Int)} {k : Nat} {Q : Vv → Fn2 → Fn2 → Fn2 → Prop} {F A R : Fn2} {σ : Sg} {b : Int → Int} {s n r w : Int} (hR : RS R) (hS : SgI σ) (hX : XI σ b F A) (hq : ∀ F' A', XI σ b F' A' → RF F A F' A' → Q (vI (ansRoom σ s n r w)) F' A' R) : Wp X (k + 8) m_X11_room [vA 373, vI s, vI n, vI r, vI w] F A R Q := by
  have no : ¬ ((0 ≤ s ∧ s < 4) ∧ (0 ≤ n ∧ n ≤ 1000) ∧ (0 ≤ w ∧ w ≤ 3) ∧ 0 ≤ r ∧ r < σ.2.1 s.toNat 0 0) → Q (vI (-1)) F A R := by
    intro h
    have := hq F A hX RF.refl
    unfold ansRoom at this
    by_cases hc : (0 ≤ s ∧ s < 4) ∧ (0 ≤ n ∧ n ≤ 1000) ∧ 0 ≤ r ∧ r < σ.2.1 s.toNat 0 0
    · rw [if_pos hc, if_neg (by omega), if_neg (by omega), if_neg (by omega), if_neg (by omega)] at this
      exact this
    · rwa [if_neg hc] at this
  refine Wp.of [vA 373, vI s, vI n, vI r, vI w] rfl rfl rfl (b_X11_room_0 (x_isShelf (k := k + 6) (fun h0 h4 => ?_) (fun h => b_X11_room_4 ⟨fun _ => no (fun h' => h h'.1), fun h => absurd rfl h⟩)))
  refine b_X11_room_4 ⟨fun h => absurd h (by decide), fun _ => x_isIn (k := k + 6) (fun n0 n1 => ?_) (fun h => b_X11_room_15 ⟨fun _ => no (fun h' => h h'.2.1), fun h => absurd rfl h⟩)⟩
  refine b_X11_room_15 ⟨fun h => absurd h (by decide), fun _ => x_isIn (k := k + 6) (fun w0 w1 => ?_) (fun h => b_X11_room_25 ⟨fun h => absurd rfl h, fun _ => no (fun h' => h h'.2.2.1)⟩)⟩
  have hi : s.toNat < 4 := by omega
  have es : s = (s.toNat : Int) := by omega
  refine b_X11_room_25 ⟨fun _ => ?_, fun h => absurd h (by decide)⟩
  rw [es]
  refine x_isRoom (k := k + 5) hR hX hi (fun r0 r1 => ?_) (fun h => b_X11_room_36 ⟨fun h => absurd rfl h, fun _ => no (fun h' => h h'.2.2.2)⟩)
  refine b_X11_room_36 ⟨fun _ => ?_, fun h => absurd h (by decide)⟩
  have hG := hX.xg hi
  have hP := hS.2.2.2.2.2.2.1 s.toNat hi
  have h8 := hP.1
  have he := (hX.2.2.1 s.toNat hi).2.1
  have en : n = (n.toNat : Int) := by omega
  rw [en]
  refine x_goTo (k := k) hR hG (by omega) (by omega) (hX.2.2.1 _ hi).1 (by omega) (hX.2.2.2.2.2.2.2.2.1) hS.2.1.1 hS.2.1.2 fun F' A' z y1 y2 y3 y4 => ?_
  have x1 := y4.rf
  have hz := rz hS hX hi y2
  have hv := hq F' A' (hX.rf x1) x1
  unfold ansRoom at hv
  rw [if_pos ⟨⟨h0, h4⟩, ⟨n0, n1⟩, r0, r1⟩] at hv
  have q0 := hz.1 r r0 (by omega)
  have hzz := zz_w hS hi n.toNat r0 (by omega)
  refine b_X11_room_47 hR ?_
  rw [y1.2.1.1, y1.2.1.2.1, ← q0.1, ← q0.2]
  refine ⟨fun w0' => ⟨fun w1' => ⟨fun w2' => ?_, fun w2' => ⟨r0, by omega, ?_⟩⟩, fun w1' => ⟨r0, by omega, ?_⟩⟩, fun w0' => ⟨r0, by omega, ?_⟩⟩
  · rw [if_neg w0', if_neg w1', if_neg w2', if_pos (by omega)] at hv
    have hP' := hG.2.2.2.2
    refine x_boilA (k := k + 3) hR hP' y3 y1.1 y1.2.1 r0 (by rw [← he.1]; exact r1) fun S' => b_X11_room_105 ?_
    rw [← lwAt_cong hP he hz r0 r1]
    have x2 : RF F' A' F' (up2 A' 396 S') := ⟨fun a ha => up2_n (by omega), fun _ _ => rfl, fun _ _ => rfl⟩
    have hv := hq F' (up2 A' 396 S') (hX.rf (x1.trans x2)) (x1.trans x2)
    unfold ansRoom at hv
    rw [if_pos ⟨⟨h0, h4⟩, ⟨n0, n1⟩, r0, r1⟩, if_neg w0', if_neg w1', if_neg w2', if_pos (by omega)] at hv
    exact hv
  · rw [if_neg w0', if_neg w1', if_pos w2'] at hv
    exact x_warm (k := k + 6) hzz.1 hzz.2.2 (b_X11_room_97 (b_X11_room_105 hv))
  · rw [if_neg w0', if_pos w1'] at hv
    exact b_X11_room_105 hv
  · rw [if_pos w0'] at hv
    exact b_X11_room_105 hv
def ansBook (σ : Sg) (s n w : Int) : Int :=
  if (0 ≤ s ∧ s < 4) ∧ (0 ≤ n ∧ n ≤ 1000) then
    (if w = 0 then zz σ s.toNat n.toNat 9 16 else if w = 1 then zz σ s.toNat n.toNat 9 17 else if w = 2 then zz σ s.toNat n.toNat 9 18 else if w = 3 then sm (zz σ s.toNat n.toNat 0) (rms (σ.2.1 s.toNat)) else if w = 4 then zz σ s.toNat n.toNat 9 15 else -1)
  else -1
theorem c_book {X : Int × (Int → Int)} {k : Nat} {Q : Vv → Fn2 → Fn2 → Fn2 → Prop} {F A R : Fn2} {σ : Sg} {q : Int → Int} {l s n w : Int} (hS : SgI σ) (hB : CB σ q l F A R) (hC : CC σ q l F A R) (hq : ∀ F' A' R', CQ σ q l F A R F' A' R' → Q (vI (ansBook σ s n w)) F' A' R') : Wp X (k + 9) m_X10_book [vA 0, vI s, vI n, vI w] F A R Q := by
  have no : ¬ ((0 ≤ s ∧ s < 4) ∧ (0 ≤ n ∧ n ≤ 1000)) → Q (vI (-1)) F A R := by
    intro h
    have := hq F A R (CQ.refl hB hC)
    unfold ansBook at this; rwa [if_neg h] at this
  refine Wp.of [vA 0, vI s, vI n, vI w, vN] rfl rfl rfl (b_X10_book_0 (w_isShelf (k := k + 7) (fun h0 h4 => ?_) (fun h => b_X10_book_4 ⟨fun _ => no (fun h' => h h'.1), fun h => absurd rfl h⟩)))
  refine b_X10_book_4 ⟨fun h => absurd h (by decide), fun _ => ⟨fun h => no (by omega), fun hn0 => ⟨fun hn1 => ?_, fun h => no (by omega)⟩⟩⟩
  have hi : s.toNat < 4 := by omega
  have es : s = (s.toNat : Int) := by omega
  have hP := hS.2.2.2.2.2.2.1 s.toNat hi
  have h8 := hP.1
  rw [es]
  refine w_upTo (k := k) hS hB hC hi (by omega) (by omega) fun F' A' R' y1 y2 => ?_
  have hk := y2 n.toNat (by omega)
  rw [show ((n.toNat : Nat) : Int) = n by omega] at hk
  have hst := y1.1.std hi
  have h7 := y1.1.2.2.2.2.2.2.1 s.toNat hi
  have hv := hq F' A' R' y1
  unfold ansBook at hv
  rw [if_pos (by omega)] at hv
  obtain ⟨k1, k2, k3, k4, k5⟩ := id hk
  refine b_X10_book_26 y1.1.1 (crs_at hi) ⟨fun h => ?_, fun h0 => ⟨fun h => ?_, fun h1 => ⟨fun h => ?_, fun h2 => ⟨fun h => ?_, fun h3 => ⟨fun h => ?_, fun h4 => ?_⟩⟩⟩⟩⟩
  · rw [if_pos h] at hv
    rw [k3]; exact ⟨by omega, by omega, hv⟩
  · rw [if_neg h0, if_pos h] at hv
    rw [k4]; exact ⟨by omega, by omega, hv⟩
  · rw [if_neg h0, if_neg h1, if_pos h] at hv
    rw [k5]; exact ⟨by omega, by omega, hv⟩
  · rw [if_neg h0, if_neg h1, if_neg h2, if_pos h] at hv
    exact w_waterAt (k := k + 7) (P := σ.2.1 s.toNat) (q := q s.toNat) y1.1.1 (crs_at hi) (by omega) (by omega) hk h7.1 hst.1 h7.2.2.1 hP (fun r a b => by have := zz_w hS hi n.toNat a (show r < 8 by omega); omega) (b_X10_book_94 (crs_at hi) hv)
  · rw [if_neg h0, if_neg h1, if_neg h2, if_neg h3, if_pos h] at hv
    rw [k2]; exact ⟨by omega, by omega, hv⟩
  · rw [if_neg h0, if_neg h1, if_neg h2, if_neg h3, if_neg h4] at hv
    exact hv
theorem sm_cong {f g : Int → Int} : ∀ n : Nat, (∀ i : Int, 0 ≤ i → i < n → f i = g i) → sm f n = sm g n
  | 0, _ => rfl
  | n + 1, h => by
    unfold sm
    rw [sm_cong n (fun i a b => h i a (by omega)), h n (by omega) (by omega)]
theorem r_bookL {X : Int × (Int → Int)} {k : Nat} {Q : Vv → Fn2 → Fn2 → Fn2 → Prop} {R : Fn2} {s n w : Int} {P z F A : Fn2} (hR : RS R) (hP : WFP P) (h49 : F 373 49 = P 0 0) (h398 : A 398 = z 0) (hz : ∀ r, 0 ≤ r → r < P 0 0 → 0 ≤ z 0 r ∧ z 0 r ≤ 99) (hq : Q (vI (if w = 0 then F 373 52 else if w = 1 then F 373 53 else if w = 2 then F 373 54 else if w = 3 then sm (z 0) (rms P) else F 373 51)) F A R) : ∀ (m j : Nat), (j : Int) + m = P 0 0 → 0 ≤ sm (z 0) j → sm (z 0) j ≤ 99 * j → G X k m_X11_book Q 41 [vA 373, vI s, vI n, vI w, vI (sm (z 0) j), vI j] [] F A R
  | 0, j, hm, a, b => by
    have e : j = rms P := by have := rms_e hP; omega
    refine b_X11_book_41 hR ?_
    rw [h49]
    refine ⟨fun _ => ⟨fun h0 => ⟨fun h1 => ⟨fun h2 => ⟨fun h3 => ?_, fun h3 => ?_⟩, fun h2 => ?_⟩, fun h1 => ?_⟩, fun h0 => ?_⟩, fun hx => by omega⟩
    · rwa [if_neg h0, if_neg h1, if_neg h2, if_neg h3] at hq
    · rw [if_neg h0, if_neg h1, if_neg h2, if_pos h3] at hq
      rw [e]; exact hq
    · rwa [if_neg h0, if_neg h1, if_pos h2] at hq
    · rwa [if_neg h0, if_pos h1] at hq
    · rwa [if_pos h0] at hq
  | m + 1, j, hm, a, b => by
    have h8 := hP.1
    have h3 := hz j (by omega) (by omega)
    refine b_X11_book_41 hR ?_
    rw [h49, h398]
    refine ⟨fun hx => by omega, fun _ => ⟨by omega, by omega, by omega, fun g hg => ⟨by omega, ?_⟩⟩⟩
    have e : g = sm (z 0) (j + 1) := by rw [hg]; rfl
    have := r_bookL (X := X) (k := k) (s := s) (n := n) hR hP h49 h398 hz hq m (j + 1) (by omega) (by rw [← e]; omega) (by rw [← e]; omega)
    rw [e]; exact this
theorem r_book {X : Int × (Int → Int)} {k : Nat} {Q : Vv → Fn2 → Fn2 → Fn2 → Prop} {F A R : Fn2} {σ : Sg} {b : Int → Int} {s n w : Int} (hR : RS R) (hS : SgI σ) (hX : XI σ b F A) (hq : ∀ F' A', XI σ b F' A' → RF F A F' A' → Q (vI (ansBook σ s n w)) F' A' R) : Wp X (k + 8) m_X11_book [vA 373, vI s, vI n, vI w] F A R Q := by
  have no : ¬ ((0 ≤ s ∧ s < 4) ∧ (0 ≤ n ∧ n ≤ 1000) ∧ (0 ≤ w ∧ w ≤ 4)) → Q (vI (-1)) F A R := by
    intro h
    have := hq F A hX RF.refl
    unfold ansBook at this
    by_cases hc : (0 ≤ s ∧ s < 4) ∧ (0 ≤ n ∧ n ≤ 1000)
    · rw [if_pos hc, if_neg (by omega), if_neg (by omega), if_neg (by omega), if_neg (by omega), if_neg (by omega)] at this
      exact this
    · rwa [if_neg hc] at this
  refine Wp.of [vA 373, vI s, vI n, vI w, vN, vN] rfl rfl rfl (b_X11_book_0 (x_isShelf (k := k + 6) (fun h0 h4 => ?_) (fun h => b_X11_book_4 ⟨fun _ => no (fun h' => h h'.1), fun h => absurd rfl h⟩)))
  refine b_X11_book_4 ⟨fun h => absurd h (by decide), fun _ => x_isIn (k := k + 6) (fun n0 n1 => ?_) (fun h => b_X11_book_15 ⟨fun _ => no (fun h' => h h'.2.1), fun h => absurd rfl h⟩)⟩
  refine b_X11_book_15 ⟨fun h => absurd h (by decide), fun _ => x_isIn (k := k + 6) (fun w0 w1 => ?_) (fun h => b_X11_book_24 ⟨fun h => absurd rfl h, fun _ => no (fun h' => h h'.2.2)⟩)⟩
  have hi : s.toNat < 4 := by omega
  have es : s = (s.toNat : Int) := by omega
  refine b_X11_book_24 ⟨fun _ => ?_, fun h => absurd h (by decide)⟩
  have hG := hX.xg hi
  have hP := hS.2.2.2.2.2.2.1 s.toNat hi
  have h8 := hP.1
  have he := (hX.2.2.1 s.toNat hi).2.1
  have en : n = (n.toNat : Int) := by omega
  rw [es, en]
  refine x_goTo (k := k) hR hG (by omega) (by omega) (hX.2.2.1 _ hi).1 (by omega) (hX.2.2.2.2.2.2.2.2.1) hS.2.1.1 hS.2.1.2 fun F' A' z y1 y2 y3 y4 => ?_
  have x1 := y4.rf
  have hz := rz hS hX hi y2
  have hv := hq F' A' (hX.rf x1) x1
  unfold ansBook at hv
  rw [if_pos ⟨⟨h0, h4⟩, ⟨n0, n1⟩⟩] at hv
  obtain ⟨z1, z2, z3, z4⟩ := hz
  have z3 := z3 trivial
  obtain ⟨z4, z5, z6⟩ := z4 trivial
  have hP' := hG.2.2.2.2
  have er : rms (RPm (b s.toNat) A) = rms (σ.2.1 s.toNat) := by unfold rms; rw [he.1]
  refine b_X11_book_35 ?_
  refine r_bookL (X := X) (k := k + 7) (P := RPm (b s.toNat) A) (z := z) hR hP' y1.1.2.2.2.2.1 y1.2.1.1 (fun r a b => ?_) ?_ (rms (RPm (b s.toNat) A)) 0 (by have := rms_e hP'; omega) (by simp [sm]) (by simp [sm])
  · rw [← he.1] at b
    rw [← (z1 r a (by omega)).1]
    have := zz_w hS hi n.toNat a (show r < 8 by omega); omega
  · obtain ⟨g1, g2, g3, g4, g5, g6⟩ := y1
    rw [g2.2.2.2.1, g2.2.2.2.2.1, g2.2.2.2.2.2, g3, ← z3, ← z4, ← z5, ← z6, er]
    rw [sm_cong (f := z 0) (g := zz σ s.toNat n.toNat 0) _ (fun i a b => (z1 i a (by have := rms_e hP; omega)).1.symm)]
    by_cases w0' : w = 0
    · rw [if_pos w0'] at hv ⊢; exact hv
    · by_cases w1' : w = 1
      · rw [if_neg w0', if_pos w1'] at hv ⊢; exact hv
      · by_cases w2' : w = 2
        · rw [if_neg w0', if_neg w1', if_pos w2'] at hv ⊢; exact hv
        · by_cases w3' : w = 3
          · rw [if_neg w0', if_neg w1', if_neg w2', if_pos w3'] at hv ⊢; exact hv
          · rw [if_neg w0', if_neg w1', if_neg w2', if_neg w3', if_pos (by omega)] at hv
            rw [if_neg w0', if_neg w1', if_neg w2', if_neg w3']; exact hv
