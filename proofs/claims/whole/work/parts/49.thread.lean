/-! thread -/
def wm (σ : Sg) (i t : Nat) (r : Int) : Int := wmf (zz σ i t 0 r) (zz σ i t 1 r)
abbrev inS (sh : Int) (i : Nat) : Prop := ¬ band (bshr sh i) 1 = 0
theorem inS_fin : ∀ sh : Nat, sh < 16 → ∀ i : Nat, i < 4 → band (bshr sh i) 1 = 0 ∨ band (bshr sh i) 1 = 1 := by decide +kernel
theorem inS_1 {sh : Int} (h0 : 0 ≤ sh) (h : sh ≤ 15) {i : Nat} (hi : i < 4) : inS sh i ↔ band (bshr sh i) 1 = 1 := by
  have := inS_fin sh.toNat (by omega) i hi
  rw [show (sh.toNat : Int) = sh by omega] at this
  unfold inS; omega
/-- shelf i's warm is none of those before it -/
abbrev nwS (σ : Sg) (sh : Int) (t : Nat) (r : Int) (i : Nat) : Prop := inS sh i ∧ ∀ o : Nat, o < i → inS sh o → wm σ o t r ≠ wm σ i t r
def cntW (σ : Sg) (sh : Int) (t : Nat) (r : Int) : Nat → Int
  | 0 => 0
  | i + 1 => cntW σ sh t r i + if nwS σ sh t r i then 1 else 0
theorem cntW_b {σ : Sg} {sh : Int} {t : Nat} {r : Int} : ∀ i, 0 ≤ cntW σ sh t r i ∧ cntW σ sh t r i ≤ i
  | 0 => ⟨Int.le_refl _, Int.le_refl _⟩
  | i + 1 => by
    have := cntW_b (σ := σ) (sh := sh) (t := t) (r := r) i
    unfold cntW
    by_cases h : nwS σ sh t r i
    · rw [if_pos h]; omega
    · rw [if_neg h]; omega
theorem cntW_p {σ : Sg} {sh : Int} {t : Nat} {r : Int} {i : Nat} (h : nwS σ sh t r i) : cntW σ sh t r (i + 1) = cntW σ sh t r i + 1 := by
  show cntW σ sh t r i + _ = _
  rw [if_pos h]
theorem cntW_n {σ : Sg} {sh : Int} {t : Nat} {r : Int} {i : Nat} (h : ¬ nwS σ sh t r i) : cntW σ sh t r (i + 1) = cntW σ sh t r i := by
  show cntW σ sh t r i + _ = _
  rw [if_neg h]; omega
/-- the most so far, its second, its room -/
def tbN (σ : Sg) (sh : Int) : Nat → Int × Int × Int
  | 0 => (1, -1, -1)
  | k + 1 => if (tbN σ sh k).1 < cntW σ sh (k / 8 + 1) (k % 8 : Nat) 4 then (cntW σ sh (k / 8 + 1) (k % 8 : Nat) 4, (k / 8 + 1 : Nat), (k % 8 : Nat)) else tbN σ sh k
def ansThread (σ : Sg) (sh w : Int) : Int := if (0 ≤ sh ∧ sh ≤ 15) ∧ 0 ≤ w ∧ w ≤ 2 then (if (tbN σ sh 1600).2.2 = -1 then -1 else if w = 2 then (tbN σ sh 1600).1 else if w = 0 then (tbN σ sh 1600).2.2 else (tbN σ sh 1600).2.1) else -1
theorem tbN_b {σ : Sg} {sh : Int} : ∀ k, 1 ≤ (tbN σ sh k).1 ∧ (tbN σ sh k).1 ≤ 4 ∧ -1 ≤ (tbN σ sh k).2.2
  | 0 => by simp [tbN]
  | k + 1 => by
    have := tbN_b (σ := σ) (sh := sh) k
    have h2 := cntW_b (σ := σ) (sh := sh) (t := k / 8 + 1) (r := (k % 8 : Nat)) 4
    unfold tbN
    split
    · refine ⟨by omega, by omega, ?_⟩
      show (-1 : Int) ≤ ((k % 8 : Nat) : Int)
      omega
    · exact this
theorem Kn.of {σ : Sg} {i : Nat} {n : Int} {A A' : Fn2} (h : Kn σ i n A) (hA : ∀ a, crs i + 40 ≤ a → a ≤ crs i + 45 → A' a = A a) : Kn σ i n A' := by
  intro t ht
  obtain ⟨k1, k2, k3, k4, k5⟩ := h t ht
  unfold KeptA
  rw [hA _ (by omega) (by omega), hA _ (by omega) (by omega), hA _ (by omega) (by omega), hA _ (by omega) (by omega), hA _ (by omega) (by omega), hA _ (by omega) (by omega)]
  exact ⟨k1, k2, k3, k4, k5⟩
theorem w_upToX {X : Int × (Int → Int)} {k : Nat} {Q : Vv → Fn2 → Fn2 → Fn2 → Prop} {F A R : Fn2} {σ : Sg} {q : Int → Int} {l n : Int} {i : Nat} (hS : SgI σ) (hB : CB σ q l F A R) (hC : CC σ q l F A R) (hi : i < 4) (h0 : 0 ≤ n) (hn : n ≤ 1000) (hq : ∀ F' A' R', CQ σ q l F A R F' A' R' → Kn σ i n A' → (∀ j : Nat, j < 4 → j ≠ i → Kn σ j n A → Kn σ j n A') → Q (vA (crs i)) F' A' R') : Wp X (k + 8) m_X10_courseUpTo [vA 0, vI i, vI n] F A R Q := by
  have hP := hS.2.2.2.2.2.2.1 i hi
  refine Wp.of [vA 0, vI i, vI n] rfl rfl rfl (b_X10_courseUpTo_0 hB.1 hB.2.2.2.2.1 (lawD_at hB.2.2.1) ⟨by omega, by omega, ?_⟩)
  rw [hB.2.2.2.2.2.2.2.2.2.2.2.1]
  refine w_goOn (k := k) (P := σ.2.1 i) (C := σ.2.2) (q := q i) hB.1 (crs_at hi) hP hS.2.1.1 hS.2.1.2 h0 hn (hB.std hi) (hB.2.2.2.2.2.2.1 i hi).1 (hC i hi) fun F' A' R' y1 y2 y3 => ?_
  have x := y3.qf hi hB.2.2.1
  have hl := hB.2.2.1
  unfold lawD at hl
  have hcq : CQ σ q l F A R F' A' R' := by
    refine ⟨hB.qf x, y3.cc hi hB.2.2.1 hC y1, x, ?_⟩
    obtain ⟨x1, x2, x3, x4⟩ := y3
    unfold crs at *
    exact ⟨fun f => x2 _ _ (by omega) (Or.inl (by omega)), fun f => x2 _ _ (by omega) (Or.inl (by omega)), fun a h1 h2 => x1 a (by omega) (by omega)⟩
  refine b_X10_courseUpTo_18 hcq.1.1 ⟨by omega, by omega, hq F' A' R' hcq (y1.kn y2 h0) fun j hj hne hk => hk.of fun a h1 h2 => ?_⟩
  unfold crs at *
  exact y3.1 a (by omega) (by omega)
theorem c_cntSeen {X : Int × (Int → Int)} {k : Nat} {Q : Vv → Fn2 → Fn2 → Fn2 → Prop} {R : Fn2} {σ : Sg} {sh x2 x3 x4 : Int} {t i : Nat} {r : Int} {F A : Fn2} (hR : RS R) (hS : SgI σ) (ht : t ≤ 200) (hi : i < 4) (hr0 : 0 ≤ r) (hr8 : r < 8) (hK : ∀ j : Nat, j < 4 → Kn σ j 200 A) (hin : inS sh i) (h4 : 0 ≤ x4 ∧ x4 ≤ 3) (hq : ∀ x7 x8 : Int, (∃ o : Nat, o < i ∧ inS sh o ∧ wm σ o t r = wm σ i t r) → G X (k + 2) m_X10_countWarms Q 6 [vA 0, vI sh, vI t, vI r, vI x4, vI ((i : Int) + 1), vI (wm σ i t r), vI x7, vI x8] [] F A R) (hq' : ∀ x7 x8 : Int, ¬ (∃ o : Nat, o < i ∧ inS sh o ∧ wm σ o t r = wm σ i t r) → G X (k + 2) m_X10_countWarms Q 6 [vA 0, vI sh, vI t, vI r, vI (x4 + 1), vI ((i : Int) + 1), vI (wm σ i t r), vI x7, vI x8] [] F A R) : ∀ (m o : Nat) (w : Int), o + m = i → (w = 0 ∨ w = 1) → (w = 1 ↔ ∃ y : Nat, y < o ∧ inS sh y ∧ wm σ y t r = wm σ i t r) → G X (k + 2) m_X10_countWarms Q 44 [vA 0, vI sh, vI t, vI r, vI x4, vI i, vI (wm σ i t r), vI w, vI o] [] F A R
  | 0, o, w, hm, hw, he => by
    have e : o = i := by omega
    subst e
    refine b_X10_countWarms_44 hR ⟨fun _ => ⟨fun hz => ⟨by omega, hq _ _ (he.1 (by omega))⟩, fun hz => ⟨by omega, by omega, hq' _ _ (fun h => by have := he.2 h; omega)⟩⟩, fun h => absurd h (by omega)⟩
  | m + 1, o, w, hm, hw, he => by
    have nx : ∀ w', (w' = 0 ∨ w' = 1) → (w' = 1 ↔ w = 1 ∨ inS sh o ∧ wm σ o t r = wm σ i t r) → G X (k + 2) m_X10_countWarms Q 44 [vA 0, vI sh, vI t, vI r, vI x4, vI i, vI (wm σ i t r), vI w', vI ((o : Int) + 1)] [] F A R := by
      intro w' hw' he'
      have := c_cntSeen (X := X) (k := k) (x2 := 0) (x3 := 0) hR hS ht hi hr0 hr8 hK hin h4 hq hq' m (o + 1) w' (by omega) hw' (by
        rw [he', he]
        constructor
        · rintro (⟨y, y1, y2⟩ | h)
          · exact ⟨y, by omega, y2⟩
          · exact ⟨o, by omega, h⟩
        · rintro ⟨y, y1, y2⟩
          by_cases e : y = o
          · subst e; exact Or.inr y2
          · exact Or.inl ⟨y, by omega, y2⟩)
      exact this
    refine b_X10_countWarms_44 hR ⟨fun h => by omega, fun _ => ⟨fun hz => ⟨by omega, nx 1 (Or.inr rfl) ⟨fun _ => Or.inl (by omega), fun _ => rfl⟩⟩, fun hz => ⟨fun hb => ⟨by omega, nx 0 (Or.inl rfl) ?_⟩, fun hb => ⟨by omega, by omega, ?_⟩⟩⟩⟩
    · constructor
      · intro h; omega
      · rintro (h | h)
        · omega
        · exact absurd hb h.1
    · have hz0 := (zz_w hS (show o < 4 by omega) t hr0 hr8).2.2
      refine w_warmAt (k := k) (o := 189 + 46 * (o : Int)) (z := zz σ o t) hR (crs_at (i := o) (by omega)) (by omega) (by omega) hr0 hr8 (hK o (by omega) t (by omega)) hz0 (b_X10_countWarms_77 ⟨fun h => ⟨by omega, nx 0 (Or.inl rfl) ?_⟩, fun h => ⟨by omega, nx 1 (Or.inr rfl) ?_⟩⟩)
      · constructor
        · intro h'; omega
        · rintro (h' | h')
          · omega
          · exact absurd h'.2 h
      · exact ⟨fun _ => Or.inr ⟨hb, h⟩, fun _ => rfl⟩
theorem c_cntL {X : Int × (Int → Int)} {k : Nat} {Q : Vv → Fn2 → Fn2 → Fn2 → Prop} {R : Fn2} {σ : Sg} {sh : Int} {t : Nat} {r : Int} {F A : Fn2} (hR : RS R) (hS : SgI σ) (ht : t ≤ 200) (hr0 : 0 ≤ r) (hr8 : r < 8) (hK : ∀ j : Nat, j < 4 → Kn σ j 200 A) (hq : Q (vI (cntW σ sh t r 4)) F A R) : ∀ (m i : Nat) (w6 w7 w8 : Vv), i + m = 4 → G X (k + 2) m_X10_countWarms Q 6 [vA 0, vI sh, vI t, vI r, vI (cntW σ sh t r i), vI i, w6, w7, w8] [] F A R
  | 0, i, w6, w7, w8, hm => by
    have e : i = 4 := by omega
    subst e
    exact b_X10_countWarms_6 hR ⟨fun _ => hq, fun h => absurd h (by decide)⟩
  | m + 1, i, w6, w7, w8, hm => by
    have hi : i < 4 := by omega
    have hb := cntW_b (σ := σ) (sh := sh) (t := t) (r := r) i
    have nx : ∀ v w6 w7 w8, v = cntW σ sh t r (i + 1) → G X (k + 2) m_X10_countWarms Q 6 [vA 0, vI sh, vI t, vI r, vI v, vI ((i : Int) + 1), w6, w7, w8] [] F A R := by
      intro v w6 w7 w8 hv
      rw [hv]
      have := c_cntL (X := X) (k := k) hR hS ht hr0 hr8 hK hq m (i + 1) w6 w7 w8 (by omega)
      exact this
    refine b_X10_countWarms_6 hR ⟨fun h => by omega, fun _ => ⟨fun hin => ⟨by omega, by omega, ?_⟩, fun hno => ⟨by omega, nx _ _ _ _ (cntW_n fun h => h.1 hno).symm⟩⟩⟩
    have hz0 := (zz_w hS hi t hr0 hr8).2.2
    refine w_warmAt (k := k) (o := 189 + 46 * (i : Int)) (z := zz σ i t) hR (crs_at hi) (by omega) (by omega) hr0 hr8 (hK i hi t (by omega)) hz0 (b_X10_countWarms_36 ?_)
    refine c_cntSeen (x2 := 0) (x3 := 0) hR hS ht hi hr0 hr8 hK hin (by omega) (fun x7 x8 hs => nx _ _ _ _ ?_) (fun x7 x8 hs => nx _ _ _ _ ?_) i 0 0 (by omega) (Or.inl rfl) ?_
    · obtain ⟨o, o1, o2, o3⟩ := hs
      exact (cntW_n fun h => h.2 o o1 o2 o3).symm
    · exact (cntW_p ⟨hin, fun o o1 o2 o3 => hs ⟨o, o1, o2, o3⟩⟩).symm
    · constructor
      · intro h; omega
      · rintro ⟨y, y1, -⟩; omega
theorem c_thrL {X : Int × (Int → Int)} {k : Nat} {Q : Vv → Fn2 → Fn2 → Fn2 → Prop} {R : Fn2} {σ : Sg} {sh w : Int} {F A : Fn2} (hR : RS R) (hS : SgI σ) (hK : ∀ j : Nat, j < 4 → Kn σ j 200 A) (hsh : 0 ≤ sh ∧ sh ≤ 15) (hw : 0 ≤ w ∧ w ≤ 2) (hq : Q (vI (ansThread σ sh w)) F A R) : ∀ (m s : Nat), s + m = 200 → ∀ (d r : Nat) (w7 w8 : Vv), r + d = 8 → (d = 8 → G X (k + 3) m_X10_thread Q 54 [vA 0, vI sh, vI w, vI (tbN σ sh (8 * s)).1, vI (tbN σ sh (8 * s)).2.1, vI (tbN σ sh (8 * s)).2.2, vI ((s : Int) + 1), w7, w8] [] F A R) ∧ (m ≠ 0 → G X (k + 3) m_X10_thread Q 65 [vA 0, vI sh, vI w, vI (tbN σ sh (8 * s + r)).1, vI (tbN σ sh (8 * s + r)).2.1, vI (tbN σ sh (8 * s + r)).2.2, vI ((s : Int) + 1), vI r, w8] [] F A R) := by
  intro m
  induction m with
  | zero =>
    intro s hs d r w7 w8 hd
    refine ⟨fun _ => ?_, fun h => absurd rfl h⟩
    have e : 8 * s = 1600 := by omega
    rw [e]
    have hb := tbN_b (σ := σ) (sh := sh) 1600
    unfold ansThread at hq
    rw [if_pos ⟨hsh, hw⟩] at hq
    refine b_X10_thread_54 ⟨fun _ => ⟨fun h1 => ⟨fun h2 => ⟨fun h3 => ?_, fun h3 => ?_⟩, fun h2 => ?_⟩, fun h1 => ?_⟩, fun h => absurd (show (200 : Int) < (s : Int) + 1 by omega) h⟩
    · rwa [if_neg h1, if_neg h2, if_neg h3] at hq
    · rwa [if_neg h1, if_neg h2, if_pos h3] at hq
    · rwa [if_neg h1, if_pos h2] at hq
    · rwa [if_pos h1] at hq
  | succ m ihm =>
    intro s hs d
    -- the second's rooms
    have rooms : ∀ (d r : Nat) (w8 : Vv), r + d = 8 → G X (k + 3) m_X10_thread Q 65 [vA 0, vI sh, vI w, vI (tbN σ sh (8 * s + r)).1, vI (tbN σ sh (8 * s + r)).2.1, vI (tbN σ sh (8 * s + r)).2.2, vI ((s : Int) + 1), vI r, w8] [] F A R := by
      intro d
      induction d with
      | zero =>
        intro r w8 hr
        have e : r = 8 := by omega
        subst e
        refine b_X10_thread_65 ⟨fun _ => ⟨by omega, ?_⟩, fun h => absurd h (by decide)⟩
        have := (ihm (s + 1) (by omega) 8 0 (vI 8) w8 (by omega)).1 rfl
        rw [show 8 * (s + 1) = 8 * s + 8 by omega] at this
        exact this
      | succ d ihd =>
        intro r w8 hr
        have hb := tbN_b (σ := σ) (sh := sh) (8 * s + r)
        have e1 : (8 * s + r) / 8 = s := by omega
        have e2 : (8 * s + r) % 8 = r := by omega
        have unf : tbN σ sh (8 * s + r + 1) = if (tbN σ sh (8 * s + r)).1 < cntW σ sh (s + 1) r 4 then (cntW σ sh (s + 1) r 4, ((s + 1 : Nat) : Int), ((r : Nat) : Int)) else tbN σ sh (8 * s + r) := by
          show (if _ < cntW σ sh ((8 * s + r) / 8 + 1) ((8 * s + r) % 8 : Nat) 4 then _ else _) = _
          rw [e1, e2]
        refine b_X10_thread_65 ⟨fun h => by omega, fun _ => ?_⟩
        have hct := c_cntL (X := X) (k := k) (σ := σ) (sh := sh) (F := F) (A := A) (t := s + 1) (r := (r : Int)) (Q := fun v F A R => G X (k + 3) m_X10_thread Q 81 [vA 0, vI sh, vI w, vI (tbN σ sh (8 * s + r)).1, vI (tbN σ sh (8 * s + r)).2.1, vI (tbN σ sh (8 * s + r)).2.2, vI ((s : Int) + 1), vI r, w8] [v] F A R) hR hS (show s + 1 ≤ 200 by omega) (by omega) (by omega) hK ?_ 4 0 vN vN vN (by omega)
        · exact Wp.of [vA 0, vI sh, vI ((s : Int) + 1), vI r, vN, vN, vN, vN, vN] rfl rfl rfl (b_X10_countWarms_0 hct)
        · have nx := ihd (r + 1)
          refine b_X10_thread_81 ⟨fun h => ⟨by omega, ?_⟩, fun h => ⟨by omega, ?_⟩⟩
          · have := nx (vI (cntW σ sh (s + 1) r 4)) (by omega)
            rw [show 8 * s + (r + 1) = 8 * s + r + 1 by omega, unf, if_neg h] at this
            exact this
          · have := nx (vI (cntW σ sh (s + 1) r 4)) (by omega)
            rw [show 8 * s + (r + 1) = 8 * s + r + 1 by omega, unf, if_pos h] at this
            exact this
    intro r w7 w8 hd
    refine ⟨fun _ => b_X10_thread_54 ⟨fun h => by omega, fun _ => rooms 8 0 w8 (by omega)⟩, fun _ => rooms d r w8 hd⟩
theorem c_upAllL {X : Int × (Int → Int)} {k : Nat} {Q : Vv → Fn2 → Fn2 → Fn2 → Prop} {σ : Sg} {q : Int → Int} {l sh w : Int} (hS : SgI σ) (hsh : 0 ≤ sh ∧ sh ≤ 15) (hw : 0 ≤ w ∧ w ≤ 2) : ∀ (m i : Nat) (F A R : Fn2) (w4 w5 w6 w7 w8 : Vv), i + m = 4 → CB σ q l F A R → CC σ q l F A R → (∀ j : Nat, j < i → Kn σ j 200 A) → (∀ F' A' R', CQ σ q l F A R F' A' R' → Q (vI (ansThread σ sh w)) F' A' R') → G X (k + 8) m_X10_thread Q 23 [vA 0, vI sh, vI w, vI i, w4, w5, w6, w7, w8] [] F A R
  | 0, i, F, A, R, w4, w5, w6, w7, w8, hm, hB, hC, hK, hq => by
    have e : i = 4 := by omega
    subst e
    refine b_X10_thread_23 ⟨fun _ => ?_, fun h => absurd h (by decide)⟩
    have := (c_thrL (X := X) (k := k + 5) (Q := Q) hB.1 hS hK hsh hw (hq F A R (CQ.refl hB hC)) 200 0 rfl 8 0 w7 w8 rfl).1 rfl
    exact this
  | m + 1, i, F, A, R, w4, w5, w6, w7, w8, hm, hB, hC, hK, hq => by
    have hi : i < 4 := by omega
    refine b_X10_thread_23 ⟨fun h => by omega, fun _ => w_upToX (k := k) hS hB hC hi (by omega) (by omega) fun F' A' R' y1 y2 y3 => b_X10_thread_36 (crs_at hi) ⟨by omega, ?_⟩⟩
    have := c_upAllL (X := X) (k := k) (Q := Q) hS hsh hw m (i + 1) F' A' R' w4 w5 w6 w7 w8 (by omega) y1.1 y1.2.1 (fun j hj => by
      by_cases e : j = i
      · subst e; exact y2
      · exact y3 j (by omega) e (hK j (by omega))) fun F'' A'' R'' z => hq F'' A'' R'' (y1.trans z)
    exact this
theorem c_thread {X : Int × (Int → Int)} {k : Nat} {Q : Vv → Fn2 → Fn2 → Fn2 → Prop} {F A R : Fn2} {σ : Sg} {q : Int → Int} {l sh w : Int} (hS : SgI σ) (hB : CB σ q l F A R) (hC : CC σ q l F A R) (hq : ∀ F' A' R', CQ σ q l F A R F' A' R' → Q (vI (ansThread σ sh w)) F' A' R') : Wp X (k + 9) m_X10_thread [vA 0, vI sh, vI w] F A R Q := by
  have no : ¬ ((0 ≤ sh ∧ sh ≤ 15) ∧ 0 ≤ w ∧ w ≤ 2) → Q (vI (-1)) F A R := by
    intro h
    have := hq F A R (CQ.refl hB hC)
    unfold ansThread at this; rwa [if_neg h] at this
  refine Wp.of [vA 0, vI sh, vI w, vN, vN, vN, vN, vN, vN] rfl rfl rfl (b_X10_thread_0 ⟨fun h => b_X10_thread_19 (no (by omega)), fun h1 => ⟨fun h => b_X10_thread_19 (no (by omega)), fun h2 => ⟨fun h => b_X10_thread_19 (no (by omega)), fun h3 => ⟨fun h4 => ?_, fun h => b_X10_thread_19 (no (by omega))⟩⟩⟩⟩)
  exact c_upAllL (X := X) (k := k) (Q := Q) hS (by omega) (by omega) 4 0 F A R vN vN vN vN vN rfl hB hC (fun j hj => absurd hj (by omega)) hq
