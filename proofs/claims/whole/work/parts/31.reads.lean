/-! WHAT IS READ OF A COURSE (class) -/
theorem w_warmAt {X : Int × (Int → Int)} {k : Nat} {Q : Vv → Fn2 → Fn2 → Fn2 → Prop} {F A R : Fn2} {o t r : Int} {z : Fn2} (hR : RS R) (ho : At_Course o) (h0 : 0 ≤ t) (h1 : t ≤ 1000) (hr : 0 ≤ r) (hr8 : r < 8) (hk : KeptA o A z t) (hz : 0 ≤ z 1 r) (hq : Q (vI (wmf (z 0 r) (z 1 r))) F A R) : Wp X (k + 2) m_X1_warmAt [vA o, vI t, vI r] F A R Q := by
  refine Wp.of [vA o, vI t, vI r, vN] rfl rfl rfl (b_X1_warmAt_0 hR ho ⟨by omega, by omega, fun g1 hg1 => ?_⟩)
  subst hg1
  obtain ⟨e0, e1⟩ := hk.1 r hr hr8
  rw [e0, e1]
  exact ⟨by omega, by omega, w_warm (k := k) hz (b_X1_warmAt_22 ho hq)⟩
theorem w_waterL {X : Int × (Int → Int)} {k : Nat} {Q : Vv → Fn2 → Fn2 → Fn2 → Prop} {R : Fn2} {o q t : Int} {P z F A : Fn2} (hR : RS R) (ho : At_Course o) (h0 : 0 ≤ t) (h1 : t ≤ 1000) (hk : KeptA o A z t) (hq0 : R o 0 = q) (hqs : At_Spring q) (hF : F q 0 = P 0 0) (hP : WFP P) (hz : ∀ r, 0 ≤ r → r < P 0 0 → 0 ≤ z 0 r ∧ z 0 r ≤ 99) (hq : Q (vI (sm (z 0) (rms P))) F A R) : ∀ (m j : Nat), (j : Int) + m = P 0 0 → 0 ≤ sm (z 0) j → sm (z 0) j ≤ 99 * j → G X k m_X1_waterAt Q 4 [vA o, vI t, vI (sm (z 0) j), vI j] [] F A R
  | 0, j, hm, hs0, hs1 => by
    refine b_X1_waterAt_4 hR ho hq0 hqs ?_
    rw [hF]
    have e : j = rms P := by have := rms_e hP; omega
    refine ⟨fun _ => by rw [e]; exact hq, fun hx => by omega⟩
  | m + 1, j, hm, hs0, hs1 => by
    have hrr := hP.1
    refine b_X1_waterAt_4 hR ho hq0 hqs ?_
    rw [hF, (hk.1 j (by omega) (by omega)).1]
    have h3 := hz j (by omega) (by omega)
    refine ⟨fun hx => by omega, fun _ => ⟨by omega, by omega, by omega, by omega, by omega, fun g1 hg1 => ⟨by omega, ?_⟩⟩⟩
    have e : g1 = sm (z 0) (j + 1) := by rw [hg1]; rfl
    have := w_waterL (X := X) (k := k) hR ho h0 h1 hk hq0 hqs hF hP hz hq m (j + 1) (by omega) (by rw [← e]; omega) (by rw [← e]; omega)
    rw [e]
    exact this
theorem w_waterAt {X : Int × (Int → Int)} {k : Nat} {Q : Vv → Fn2 → Fn2 → Fn2 → Prop} {F A R : Fn2} {o q t : Int} {P z : Fn2} (hR : RS R) (ho : At_Course o) (h0 : 0 ≤ t) (h1 : t ≤ 1000) (hk : KeptA o A z t) (hq0 : R o 0 = q) (hqs : At_Spring q) (hF : F q 0 = P 0 0) (hP : WFP P) (hz : ∀ r, 0 ≤ r → r < P 0 0 → 0 ≤ z 0 r ∧ z 0 r ≤ 99) (hq : Q (vI (sm (z 0) (rms P))) F A R) : Wp X (k + 1) m_X1_waterAt [vA o, vI t] F A R Q :=
  Wp.of [vA o, vI t, vN, vN] rfl rfl rfl (b_X1_waterAt_0 ho (w_waterL hR ho h0 h1 hk hq0 hqs hF hP hz hq (rms P) 0 (by have := rms_e hP; omega) (by simp [sm]) (by simp [sm])))
theorem w_boilL {X : Int × (Int → Int)} {k : Nat} {Q : Vv → Fn2 → Fn2 → Fn2 → Prop} {R : Fn2} {o q l t r : Int} {P z F A : Fn2} {C : Nat → Option (List Int)} (hR : RS R) (ho : At_Course o) (h0 : 0 ≤ t) (h1 : t ≤ 1000) (hr : 0 ≤ r) (hrr : r < P 0 0) (hk : KeptA o A z t) (hq0 : R o 0 = q) (hS : Std q l P C F A) (hP : WFP P) (hz : ∀ r, 0 ≤ r → r < P 0 0 → 0 ≤ z 0 r ∧ z 0 r ≤ 99) (hz1 : 0 ≤ z 1 r) (hq : ∀ S', Q (vI (lwAt (LwF C 0) P z r)) F (up2 A (l + 4) S') R) : ∀ (n : Nat) (u s st : Int) (w6 : Vv), u < n → u < P 0 0 → 0 ≤ s → s + 99 * n ≤ 10000 → 0 ≤ st → st + n ≤ 7 → s + abq (P 8) (z 0) n u = abv (P 8) (z 0) 8 r → G X (k + 3) m_X1_boilAt Q 17 [vA o, vA l, vI t, vI r, vI s, vI u, vI st] [] F A R := by
  have h8 := hP.1
  have fin : ∀ s u : Int, s = abv (P 8) (z 0) 8 r → 0 ≤ s → s ≤ 10000 → ((-2147483648 ≤ t * 8 ∧ t * 8 ≤ 2147483647) ∧ (-2147483648 ≤ t * 8 + r ∧ t * 8 + r ≤ 2147483647) ∧ 0 ≤ t * 8 + r ∧ t * 8 + r < 8008 ∧ (∀ g1 : Int, g1 = A (o + 40) (t * 8 + r) → (0 ≤ r ∧ r < 8 ∧ Wp X (k + 3) m_X1_warmAt [vA o, vI t, vI r] F A R (fun v F A' R => G X (k + 3) m_X1_boilAt Q 97 [vA o, vA l, vI t, vI r, vI s, vI u, vI g1] [v, vI g1, vI s, vI (A (q + 3) r), vA l] F A' R)))) := by
    intro s u hs hs0 hs1
    obtain ⟨e0, e1⟩ := hk.1 r hr (by omega)
    refine ⟨by omega, by omega, by omega, by omega, fun g1 hg1 => ⟨hr, by omega, w_warmAt (k := k + 1) hR ho h0 h1 hr (by omega) hk hz1 ?_⟩⟩
    refine b_X1_boilAt_97 ho hS.2.1 hS.2.1 ?_
    rw [hS.2.2.1.1 3 (by omega) (by omega)]
    rw [hg1, e0, hs]
    refine w_boil (k := k) hR hS.2.1 hS.2.2.2 (by omega) (by omega) fun S' => b_X1_boilAt_100 ho hS.2.1 (hq S')
  intro n
  induction n with
  | zero =>
    intro u s st w6 hu hb hs hn hst hst2 he
    have hneg : u < 0 := by omega
    unfold abq at he
    rw [if_pos hneg] at he
    refine b_X1_boilAt_17 hR ho hS.2.1 hq0 hS.1 ⟨fun hx => fin s u (by omega) hs (by omega), fun _ => ⟨fun _ => fin s u (by omega) hs (by omega), fun hx => absurd hneg hx⟩⟩
  | succ n ih =>
    intro u s st w6 hu hb hs hn hst hst2 he
    refine b_X1_boilAt_17 hR ho hS.2.1 hq0 hS.1 ⟨fun hx => by omega, fun _ => ⟨fun hneg => ?_, fun hneg => ?_⟩⟩
    · unfold abq at he
      rw [if_pos hneg] at he
      exact fin s u (by omega) hs (by omega)
    · have h2 := hP.2.1 u (by omega) hb
      have h3 := hz u (by omega) hb
      rw [(hk.1 u (by omega) (by omega)).1, hS.2.2.1.1 8 (by omega) (by omega)]
      refine ⟨by omega, by omega, by omega, by omega, by omega, fun g3 hg3 => ⟨by omega, by omega, fun g4 hg4 => ⟨by omega, ?_⟩⟩⟩
      subst hg4
      subst hg3
      refine ih (P 8 u) (s + z 0 u) (st + 1) w6 (by omega) (by omega) (by omega) (by omega) (by omega) (by omega) ?_
      rw [← he]
      conv => rhs; unfold abq
      rw [if_neg hneg, abv_s]; omega
theorem w_boilAt {X : Int × (Int → Int)} {k : Nat} {Q : Vv → Fn2 → Fn2 → Fn2 → Prop} {F A R : Fn2} {o q l t r : Int} {P z : Fn2} {C : Nat → Option (List Int)} (hR : RS R) (ho : At_Course o) (h0 : 0 ≤ t) (h1 : t ≤ 1000) (hr : 0 ≤ r) (hrr : r < P 0 0) (hk : KeptA o A z t) (hq0 : R o 0 = q) (hS : Std q l P C F A) (hP : WFP P) (hz : ∀ r, 0 ≤ r → r < P 0 0 → 0 ≤ z 0 r ∧ z 0 r ≤ 99) (hz1 : 0 ≤ z 1 r) (hq : ∀ S', Q (vI (lwAt (LwF C 0) P z r)) F (up2 A (l + 4) S') R) : Wp X (k + 4) m_X1_boilAt [vA o, vA l, vI t, vI r] F A R Q := by
  have h8 := hP.1
  have h2 := hP.2.1 r hr hrr
  refine Wp.of [vA o, vA l, vI t, vI r, vN, vN, vN] rfl rfl rfl (b_X1_boilAt_0 hR ho hS.2.1 hq0 hS.1 ⟨hr, by omega, fun g1 hg1 => ?_⟩)
  rw [hS.2.2.1.1 8 (by omega) (by omega)] at hg1
  subst hg1
  exact w_boilL (k := k) hR ho h0 h1 hr hrr hk hq0 hS hP hz hz1 hq 7 (P 8 r) 0 0 vN (by omega) (by omega) (by omega) (by omega) (by omega) (by omega) (by rw [Int.zero_add]; rfl)
/-- two seconds are alike -/
def alk (P z z' : Fn2) : Prop := ∀ r, 0 ≤ r → r < P 0 0 → z 0 r = z' 0 r ∧ z 1 r = z' 1 r
theorem w_alikeL {X : Int × (Int → Int)} {k : Nat} {Q : Vv → Fn2 → Fn2 → Fn2 → Prop} {R : Fn2} {o q t u : Int} {P z z' F A : Fn2} (hR : RS R) (ho : At_Course o) (h0 : 0 ≤ t) (h1 : t ≤ 1000) (g0 : 0 ≤ u) (g1 : u ≤ 1000) (hk : KeptA o A z t) (hk' : KeptA o A z' u) (hq0 : R o 0 = q) (hqs : At_Spring q) (hF : F q 0 = P 0 0) (hP : WFP P) (hq : alk P z z' → Q (vI 1) F A R) (hq' : ¬ alk P z z' → Q (vI 0) F A R) : ∀ (m : Nat) (j : Int) (w4 w5 : Vv), 0 ≤ j → j + m = P 0 0 → (∀ r, 0 ≤ r → r < j → z 0 r = z' 0 r ∧ z 1 r = z' 1 r) → G X k m_X1_isAlike Q 2 [vA o, vI t, vI u, vI j, w4, w5] [] F A R
  | 0, j, w4, w5, hj, hm, ha => by
    refine b_X1_isAlike_2 hR ho hq0 hqs ?_
    rw [hF]
    exact ⟨fun _ => hq fun r a b => ha r a (by omega), fun hx => by omega⟩
  | m + 1, j, w4, w5, hj, hm, ha => by
    have hrr := hP.1
    refine b_X1_isAlike_2 hR ho hq0 hqs ?_
    rw [hF]
    refine ⟨fun hx => by omega, fun _ => ⟨by omega, by omega, fun g1' hg1 => ?_⟩⟩
    subst hg1
    refine ⟨by omega, by omega, fun g2 hg2 => ?_⟩
    subst hg2
    obtain ⟨e0, e1⟩ := hk.1 j hj (by omega)
    obtain ⟨f0, f1⟩ := hk'.1 j hj (by omega)
    rw [e0, e1, f0, f1]
    refine ⟨by omega, by omega, by omega, by omega, fun hx => hq' fun h => hx (h j hj (by omega)).1, fun hx => ⟨fun hx2 => ⟨by omega, ?_⟩, fun hx2 => hq' fun h => hx2 (h j hj (by omega)).2⟩⟩
    refine w_alikeL hR ho h0 h1 g0 g1 hk hk' hq0 hqs hF hP hq hq' m (j + 1) _ _ (by omega) (by omega) fun r a b => ?_
    by_cases e : r = j
    · subst e; exact ⟨hx, hx2⟩
    · exact ha r a (by omega)
theorem w_alike {X : Int × (Int → Int)} {k : Nat} {Q : Vv → Fn2 → Fn2 → Fn2 → Prop} {F A R : Fn2} {o q t u : Int} {P z z' : Fn2} (hR : RS R) (ho : At_Course o) (h0 : 0 ≤ t) (h1 : t ≤ 1000) (g0 : 0 ≤ u) (g1 : u ≤ 1000) (hk : KeptA o A z t) (hk' : KeptA o A z' u) (hq0 : R o 0 = q) (hqs : At_Spring q) (hF : F q 0 = P 0 0) (hP : WFP P) (hq : alk P z z' → Q (vI 1) F A R) (hq' : ¬ alk P z z' → Q (vI 0) F A R) : Wp X (k + 1) m_X1_isAlike [vA o, vI t, vI u] F A R Q :=
  Wp.of [vA o, vI t, vI u, vN, vN, vN] rfl rfl rfl (b_X1_isAlike_0 ho (w_alikeL hR ho h0 h1 g0 g1 hk hk' hq0 hqs hF hP hq hq' (rms P) 0 vN vN (by omega) (by rw [rms_e hP]; omega) fun r a b => by omega))
theorem w_ringBL {X : Int × (Int → Int)} {k : Nat} {Q : Vv → Fn2 → Fn2 → Fn2 → Prop} {R : Fn2} {o q : Int} {n : Nat} {P F A : Fn2} {z : Nat → Fn2} (hR : RS R) (ho : At_Course o) (h1 : (n : Int) ≤ 1000) (hk : ∀ t : Nat, t ≤ n → KeptA o A (z t) t) (hq0 : R o 0 = q) (hqs : At_Spring q) (hF : F q 0 = P 0 0) (hP : WFP P) (hq : ∀ v : Nat, 1 ≤ v → v ≤ n → alk P (z n) (z (n - v)) → (∀ w : Nat, 1 ≤ w → w < v → ¬ alk P (z n) (z (n - w))) → Q (vI v) F A R) (hq' : (∀ w : Nat, 1 ≤ w → w ≤ n → ¬ alk P (z n) (z (n - w))) → Q (vI (-1)) F A R) : ∀ (m v : Nat), v + m = n + 1 → 1 ≤ v → (∀ w : Nat, 1 ≤ w → w < v → ¬ alk P (z n) (z (n - w))) → G X (k + 1) m_X1_ringBehind Q 2 [vA o, vI n, vI v] [] F A R
  | 0, v, hm, hv, ha => b_X1_ringBehind_2 ho ⟨fun _ => hq' fun w a b => ha w a (by omega), fun hx => absurd (show (n : Int) < v by omega) hx⟩
  | m + 1, v, hm, hv, ha => by
    refine b_X1_ringBehind_2 ho ⟨fun hx => by omega, fun _ => ⟨by omega, ?_⟩⟩
    have e : (n : Int) - v = ((n - v : Nat) : Int) := by omega
    rw [e]
    refine w_alike (k := k) hR ho (by omega) (by omega) (by omega) (by omega) (hk n (by omega)) (hk (n - v) (by omega)) hq0 hqs hF hP (fun h => ?_) (fun h => ?_)
    · exact b_X1_ringBehind_15 ho ⟨fun hx => by omega, fun _ => hq v hv (by omega) h ha⟩
    · refine b_X1_ringBehind_15 ho ⟨fun _ => ⟨by omega, ?_⟩, fun hx => absurd rfl hx⟩
      have := w_ringBL (X := X) (k := k) hR ho h1 hk hq0 hqs hF hP hq hq' m (v + 1) (by omega) (by omega) fun w a b => by
        by_cases e : w = v
        · subst e; exact h
        · exact ha w a (by omega)
      exact this
theorem w_ringB {X : Int × (Int → Int)} {k : Nat} {Q : Vv → Fn2 → Fn2 → Fn2 → Prop} {F A R : Fn2} {o q : Int} {n : Nat} {P : Fn2} {z : Nat → Fn2} (hR : RS R) (ho : At_Course o) (h1 : (n : Int) ≤ 1000) (hk : ∀ t : Nat, t ≤ n → KeptA o A (z t) t) (hq0 : R o 0 = q) (hqs : At_Spring q) (hF : F q 0 = P 0 0) (hP : WFP P) (hq : ∀ v : Nat, 1 ≤ v → v ≤ n → alk P (z n) (z (n - v)) → (∀ w : Nat, 1 ≤ w → w < v → ¬ alk P (z n) (z (n - w))) → Q (vI v) F A R) (hq' : (∀ w : Nat, 1 ≤ w → w ≤ n → ¬ alk P (z n) (z (n - w))) → Q (vI (-1)) F A R) : Wp X (k + 2) m_X1_ringBehind [vA o, vI n] F A R Q :=
  Wp.of [vA o, vI n, vN] rfl rfl rfl (b_X1_ringBehind_0 ho (w_ringBL (k := k) hR ho h1 hk hq0 hqs hF hP hq hq' n 1 (by omega) (by omega) fun w a b => by omega))
theorem w_ringSL {X : Int × (Int → Int)} {k : Nat} {Q : Vv → Fn2 → Fn2 → Fn2 → Prop} {R : Fn2} {o q : Int} {n v : Nat} {P F A : Fn2} {z : Nat → Fn2} (hR : RS R) (ho : At_Course o) (h1 : (n : Int) ≤ 1000) (hv : v ≤ n) (hk : ∀ t : Nat, t ≤ n → KeptA o A (z t) t) (hq0 : R o 0 = q) (hqs : At_Spring q) (hF : F q 0 = P 0 0) (hP : WFP P) (hq : ∀ f : Nat, f + v ≤ n → (f + v = n ∨ alk P (z f) (z (f + v))) → (∀ w : Nat, w < f → ¬ alk P (z w) (z (w + v))) → Q (vI f) F A R) : ∀ (m f : Nat), f + v + m = n → (∀ w : Nat, w < f → ¬ alk P (z w) (z (w + v))) → G X (k + 1) m_X1_ringStart Q 2 [vA o, vI n, vI v, vI f] [] F A R
  | 0, f, hm, ha => by
    refine b_X1_ringStart_2 ho ⟨by omega, fun _ => ⟨by omega, ?_⟩, fun hx => by omega⟩
    have := hq f (by omega) (Or.inl (by omega)) ha
    rw [show (n : Int) - v = f by omega]; exact this
  | m + 1, f, hm, ha => by
    refine b_X1_ringStart_2 ho ⟨by omega, fun hx => by omega, fun _ => ?_⟩
    have e : (f : Int) + v = ((f + v : Nat) : Int) := by omega
    rw [e]
    refine w_alike (k := k) hR ho (by omega) (by omega) (by omega) (by omega) (hk f (by omega)) (hk (f + v) (by omega)) hq0 hqs hF hP (fun h => ?_) (fun h => ?_)
    · exact b_X1_ringStart_17 ho ⟨fun hx => by omega, fun _ => hq f (by omega) (Or.inr h) ha⟩
    · refine b_X1_ringStart_17 ho ⟨fun _ => ⟨by omega, ?_⟩, fun hx => absurd rfl hx⟩
      have := w_ringSL (X := X) (k := k) hR ho h1 hv hk hq0 hqs hF hP hq m (f + 1) (by omega) fun w b => by
        by_cases e : w = f
        · subst e; exact h
        · exact ha w (by omega)
      exact this
theorem w_ringS {X : Int × (Int → Int)} {k : Nat} {Q : Vv → Fn2 → Fn2 → Fn2 → Prop} {F A R : Fn2} {o q : Int} {n v : Nat} {P : Fn2} {z : Nat → Fn2} (hR : RS R) (ho : At_Course o) (h1 : (n : Int) ≤ 1000) (hv : v ≤ n) (hk : ∀ t : Nat, t ≤ n → KeptA o A (z t) t) (hq0 : R o 0 = q) (hqs : At_Spring q) (hF : F q 0 = P 0 0) (hP : WFP P) (hq : ∀ f : Nat, f + v ≤ n → (f + v = n ∨ alk P (z f) (z (f + v))) → (∀ w : Nat, w < f → ¬ alk P (z w) (z (w + v))) → Q (vI f) F A R) : Wp X (k + 2) m_X1_ringStart [vA o, vI n, vI v] F A R Q :=
  Wp.of [vA o, vI n, vI v, vN] rfl rfl rfl (b_X1_ringStart_0 ho (w_ringSL (k := k) hR ho h1 hv hk hq0 hqs hF hP hq (n - v) 0 (by omega) fun w b => by omega))
