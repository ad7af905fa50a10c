/-! THE BOARD, the class: times, rows, and the two calls -/
theorem c_ftime {X : Int × (Int → Int)} {k : Nat} {Q : Vv → Fn2 → Fn2 → Fn2 → Prop} {F A R : Fn2} {c : Cf} {n : Nat} {r a b : Int} (hR : RS R) (hT : BdT c n F A) (h0 : F 71 0 = r) (r0 : 0 ≤ r) (r1 : r ≤ 999) (hH : HtI c r A) (a0 : 1 ≤ a) (ab : a ≤ b) (b1 : b ≤ 99) (hq : Q (vI (tH c a b r)) F A R) : Wp X (k + 2) m_X0_findTime [vA 71, vI a, vI b] F A R Q := by
  have T := hT.1
  have n60 := T.2.1
  have srt := hT.2.2.1
  have e1 := hH a b a0 ab b1
  have M0 := T.mH0 a b r
  have lp : ∀ (g s : Nat) (ls : Int), s + g = n → (s = 0 ∧ ls = 0 ∨ 1 ≤ s ∧ ls = max 0 (A 73 ((s : Int) - 1) - r)) → (∀ m, 0 ≤ m → m < ls → cH c a b r m < mH c a b r) → G X (k + 1) m_X0_findTime Q 15 [vA 71, vI a, vI b, vI (mH c a b r), vI ls, vI s] [] F A R := by
    intro g
    induction g with
    | zero =>
      intro s ls hs hls hlt
      have es : s = n := by omega
      have l0 : 0 ≤ ls ∧ ls ≤ 999 := by
        rcases hls with h | h
        · omega
        · have := T.2.2 ((s : Int) - 1) (by omega) (by omega); omega
      refine b_X0_findTime_15 ⟨fun _ => ?_, fun h => absurd h (by rw [hT.2.1]; omega)⟩
      have hc : cH c a b r ls = mH c a b r := by
        by_cases z : 0 < mH c a b r
        · obtain ⟨m, m0, m1, me⟩ := T.mHat a b r
          obtain ⟨i, i0, i1, ia, ib, it, ic⟩ := T.down (a := a) (b := b) r0 m0 (by rw [me]; exact z)
          rw [me] at ic
          have wi := T.2.2 i i0 i1
          have wl := srt i ((s : Int) - 1) i0 (by omega) (by omega)
          have le : max 0 (A 73 i - r) = ls := by
            rcases hls with h | h
            · omega
            · by_cases y : max 0 (A 73 i - r) < ls
              · have := hlt _ (by omega) y; omega
              · omega
          rw [le] at ic
          have := T.cHm (a := a) (b := b) (r := r) l0.1 l0.2
          omega
        · have := T.cH0 a b r ls
          have := T.cHm (a := a) (b := b) (r := r) l0.1 l0.2
          omega
      rw [tH_eq T l0.1 l0.2 hc (fun m m0 m1 => Int.ne_of_lt (hlt m m0 m1))] at hq
      exact hq
    | succ g ih =>
      intro s ls hs hls hlt
      have l0 : 0 ≤ ls ∧ ls ≤ 999 := by
        rcases hls with h | h
        · omega
        · have := T.2.2 ((s : Int) - 1) (by omega) (by omega); omega
      have cm := T.cHm (a := a) (b := b) (r := r) l0.1 l0.2
      have c0 := T.cH0 a b r ls
      have ws := T.2.2 s (by omega) (by omega)
      refine b_X0_findTime_15 ⟨fun h => absurd (show (s : Int) < F 71 1 by rw [hT.2.1]; omega) h, fun _ => ?_⟩
      refine c_chits (k := k) hR hT h0 r0 r1 l0.1 l0.2 (b_X0_findTime_32 hR ⟨fun hge => ?_, fun hl => ⟨by omega, by omega, by rw [h0]; omega, fun g1 hg1 => ⟨by omega, ?_⟩⟩⟩)
      · rw [tH_eq T l0.1 l0.2 (by omega) (fun m m0 m1 => Int.ne_of_lt (hlt m m0 m1))] at hq
        exact hq
      · rw [h0] at hg1
        refine ih (s + 1) g1 (by omega) (Or.inr ⟨by omega, by rw [hg1, show ((s + 1 : Nat) : Int) - 1 = s by omega]⟩) (fun m m0 m1 => ?_)
        by_cases y : m < ls
        · exact hlt m m0 y
        · by_cases z : m = ls
          · rw [z]; exact hl
          · have mm := T.cHm (a := a) (b := b) (r := r) m0 (by omega)
            by_cases x : cH c a b r m < mH c a b r
            · exact x
            · obtain ⟨i, i0, i1, ia, ib, it, ic⟩ := T.down (a := a) (b := b) r0 m0 (show 0 < cH c a b r m by omega)
              have si : i < s := by
                by_cases v : i < s
                · exact v
                · have := srt s i (by omega) (by omega) i1; omega
              have wl := srt i ((s : Int) - 1) i0 (by omega) (by omega)
              have lle : max 0 (A 73 i - r) ≤ ls := by
                rcases hls with h | h
                · omega
                · omega
              by_cases v : max 0 (A 73 i - r) < ls
              · have := hlt _ (by omega) v; omega
              · have : max 0 (A 73 i - r) = ls := by omega
                rw [this] at ic; omega
  refine Wp.of (k := k + 1) [vA 71, vI a, vI b, vN, vN, vN] rfl rfl rfl (b_X0_findTime_0 hR ⟨by omega, by omega, by omega, by omega, fun g2 hg2 => ?_⟩)
  rw [e1] at hg2
  subst hg2
  exact lp n 0 0 (by omega) (Or.inl ⟨rfl, rfl⟩) (fun m m0 m1 => by omega)
abbrev FRp (A A' : Fn2) : Prop := ∀ z, z ≠ 182 → z ≠ 183 → A' z = A z
theorem c_place {X : Int × (Int → Int)} {k : Nat} {Q : Vv → Fn2 → Fn2 → Fn2 → Prop} {F A R : Fn2} {c : Cf} {n rows : Nat} {r : Int} (hR : RS R) (hT : BdT c n F A) (h0 : F 71 0 = r) (h3 : F 71 3 = rows) (w1 : 1 ≤ rows) (w4 : rows ≤ 4) (r0 : 0 ≤ r) (r1 : r ≤ 999) (hH : HtI c r A) (hB : BhI c r rows A) (hq : ∀ A', FRp A A' → (∀ i : Nat, i < rows → A' 182 i = stR c r rows i ∧ A' 183 i = tmR c r rows i) → Q vN F A' R) : Wp X (k + 3) m_X0_placeRows [vA 71] F A R Q := by
  have lp : ∀ (g i : Nat) (A1 : Fn2) (w3 : Vv), i + g = rows → FRp A A1 → (∀ j : Nat, j < i → A1 182 j = stR c r rows j ∧ A1 183 j = tmR c r rows j) → G X (k + 2) m_X0_placeRows Q 4 [vA 71, vI (stR c r rows i), vI i, w3] [] F A1 R := by
    intro g
    induction g with
    | zero =>
      intro i A1 w3 hi f1 hj
      refine b_X0_placeRows_4 ⟨fun _ => hq A1 f1 (fun j hjr => hj j (by omega)), fun h => absurd h (by rw [h3]; omega)⟩
    | succ g ih =>
      intro i A1 w3 hi f1 hj
      have sb := stR_b (c := c) (r := r) w4 i (by omega)
      have eb := en_b (c := c) (r := r) (left := rows - i) (a := stR c r rows i) (by omega) sb.2
      have bt : ∀ A2, FRp A1 A2 → BdT c n F A2 ∧ HtI c r A2 ∧ BhI c r rows A2 := fun A2 f2 => by
        have e : ∀ z, z < 182 → A2 z = A z := fun z hz => by rw [f2 z (by omega) (by omega), f1 z (by omega) (by omega)]
        refine ⟨hT.e rfl (e 72 (by decide)) (e 73 (by decide)) (e 74 (by decide)), fun x y x0 xy y1 => by rw [e _ (by omega)]; exact hH x y x0 xy y1, fun lf l1 l2 x x0 x1 => by rw [e _ (by omega)]; exact hB lf l1 l2 x x0 x1⟩
      obtain ⟨t1, t2, t3⟩ := bt A1 (fun _ _ _ => rfl)
      refine b_X0_placeRows_4 ⟨fun h => absurd (show (i : Int) < F 71 3 by rw [h3]; omega) h, fun _ => ⟨by rw [h3]; omega, ?_⟩⟩
      rw [h3, show (rows : Int) - i = ((rows - i : Nat) : Int) by omega]
      refine c_fend (k := k + 1) hR t1 t2 t3 (by omega) (by omega) w4 sb.1 sb.2 (b_X0_placeRows_23 hR ⟨by omega, by omega, fun A2 hA2 => ?_⟩)
      have f2 : FRp A1 A2 := fun z z0 z1 => by rw [hA2, st2_n z0]
      obtain ⟨v1, v2, v3⟩ := bt A2 f2
      refine c_ftime (k := k) hR v1 h0 r0 r1 v2 sb.1 eb.1 (by omega) (b_X0_placeRows_42 (show Y1.1 183 = 0 by decide +kernel) (show Y1.2.1 183 = 4 by decide +kernel) ⟨by omega, by omega, fun A3 hA3 => ⟨by omega, fun g2 hg2 => ⟨by omega, ?_⟩⟩⟩)
      subst hg2
      refine ih (i + 1) A3 _ (by omega) (fun z z0 z1 => by rw [hA3, st2_n z1, f2 z z0 z1]; exact f1 z z0 z1) (fun j hji => ?_)
      have e2 : A3 182 = u1 (A1 182) i (stR c r rows i) := by rw [hA3, st2_n (by decide), hA2, st2_s]
      have e3 : A3 183 = u1 (A1 183) i (tH c (stR c r rows i) (en c r (rows - i) (stR c r rows i)) r) := by rw [hA3, st2_s, hA2, st2_n (by decide)]
      rw [e2, e3]
      by_cases e : j = i
      · subst e; rw [u1_s, u1_s]; exact ⟨rfl, rfl⟩
      · rw [u1_n (by omega), u1_n (by omega)]; exact hj j (by omega)
  exact Wp.of (k := k + 2) [vA 71, vN, vN, vN] rfl rfl rfl (b_X0_placeRows_0 (lp rows 0 A vN (by omega) (fun _ _ _ => rfl) (fun j hj => absurd hj (by omega))))
/-- what the class keeps of the last board -/
def BoA (σ : Sg) (rows : Nat) (share kk : Int) (F A : Fn2) : Prop := F 71 3 = rows ∧ F 71 4 = share ∧ F 71 5 = kk ∧ F 71 0 = spanS σ rows share kk ∧ F 71 1 = allS σ kk ∧ ∀ i : Nat, i < rows → A 182 i = stR (cfA σ kk) (spanS σ rows share kk) rows i ∧ A 183 i = tmR (cfA σ kk) (spanS σ rows share kk) rows i
def BoI (σ : Sg) (F A : Fn2) : Prop := F 71 2 = 0 ∨ ∃ (rows : Nat) (share kk : Int), BoA σ rows share kk F A
abbrev FRf (F A F' A' : Fn2) : Prop := (∀ z, z < 72 ∨ 183 < z → A' z = A z) ∧ ∀ a f, a ≠ 71 → F' a f = F a f
theorem st71 {F F' : Fn2} {i v : Int} (h : F' = st2 F 71 i v) : ∀ a f, a ≠ 71 ∨ f ≠ i → F' a f = F a f := fun a f hx => by
  rw [h]
  by_cases e : a = 71
  · subst e; rw [st2_s, u1_n (by omega)]
  · rw [st2_n e]
theorem c_find0 {X : Int × (Int → Int)} {k : Nat} {Q : Vv → Fn2 → Fn2 → Fn2 → Prop} {F A R : Fn2} {σ : Sg} {rows : Nat} {share kk : Int} (hR : RS R) (hI : SiI σ F A) (hBo : BoI σ F A) (w1 : 1 ≤ rows) (w4 : rows ≤ 4) (s0 : 0 ≤ share) (s1 : share ≤ 100) (hq : ∀ F' A', FRf F A F' A' → BoA σ rows share kk F' A' → Q vN F' A' R) : Wp X (k + 4) m_X0_find [vA 71, vA 66, vI rows, vI share, vI kk] F A R Q := by
  have g33 : G X (k + 3) m_X0_find Q 33 [vA 71, vA 66, vI rows, vI share, vI kk, vN, vN, vN, vN] [] F A R := by
    refine b_X0_find_33 fun F1 hF1 F2 hF2 F3 hF3 F4 hF4 => ?_
    have x1 := st71 hF1
    have x2 := st71 hF2
    have x3 := st71 hF3
    have x4 := st71 hF4
    have f4 : ∀ a f, a ≠ 71 → F4 a f = F a f := fun a f h => by rw [x4 a f (Or.inl h), x3 a f (Or.inl h), x2 a f (Or.inl h), x1 a f (Or.inl h)]
    have e3 : F4 71 3 = rows := by rw [x4 71 3 (by omega), x3 71 3 (by omega), hF2, st2_s, u1_s]
    have e4 : F4 71 4 = share := by rw [x4 71 4 (by omega), hF3, st2_s, u1_s]
    have e5 : F4 71 5 = kk := by rw [hF4, st2_s, u1_s]
    refine c_gather (k := k + 1) (σ := σ) (kk := kk) hR (hI.e (f4 66 1 (by decide)) (fun _ _ _ => rfl)) e5 (fun F5 A5 n bt f5 x5 => b_X0_find_59 ?_)
    have T := bt.1
    have n60 := T.2.1
    have all : allS σ kk = n := T.all
    have b5 : ∀ F' A' : Fn2, FRw A5 A' → (∀ f, f = 1 → F' 71 f = F5 71 f) → BdT (cfA σ kk) n F' A' := fun F' A' h h' => bt.e (h' 1 rfl) (h 72 (by decide)) (h 73 (by decide)) (h 74 (by decide))
    have y3 : F5 71 3 = rows := by rw [x5 71 3 (by omega)]; exact e3
    have y4 : F5 71 4 = share := by rw [x5 71 4 (by omega)]; exact e4
    have y5 : F5 71 5 = kk := by rw [x5 71 5 (by omega)]; exact e5
    have y1 := bt.2.1
    have sn := mul_b s0 s1 (show (0 : Int) ≤ n by omega) (show (n : Int) ≤ 60 by omega)
    -- the span is found
    have fin : ∀ (A6 : Fn2) (x5' x6 x7 : Int) (w8 : Vv), FRw A5 A6 → ((n : Int) > 0 → spanS σ rows share kk = x6 ∧ 0 ≤ x6 ∧ x6 ≤ 999) → G X (k + 3) m_X0_find Q 151 [vA 71, vA 66, vI rows, vI share, vI kk, vI x5', vI x6, vI x7, w8] [] F5 A6 R := by
      intro A6 x5' x6 x7 w8 f6 hx6
      have rest : ∀ (sp : Int) (F7 : Fn2), F7 = st2 F5 71 0 sp → spanS σ rows share kk = sp → 0 ≤ sp → sp ≤ 999 → Wp X (k + 3) m_X0_weigh [vA 71, vI (F7 71 0)] F7 A6 R (fun v F A R => G X (k + 3) m_X0_find Q 176 [vA 71, vA 66, vI rows, vI share, vI kk, vI x5', vI x6, vI x7, w8] [] F A R) := by
        intro sp F7 hF7 hsp p0 p1
        have x7' := st71 hF7
        have e0 : F7 71 0 = sp := by rw [hF7, st2_s, u1_s]
        rw [e0]
        have bt7 := b5 F7 A6 f6 (fun f hf => x7' 71 f (by omega))
        refine c_bweigh (k := k + 1) hR bt7 (by rw [x7' 71 3 (by omega)]; exact y3) w1 w4 p0 p1 (fun A8 f8 hH hB => b_X0_find_176 ?_)
        have bt8 : BdT (cfA σ kk) n F7 A8 := bt7.e rfl (f8 72 (by decide)) (f8 73 (by decide)) (f8 74 (by decide))
        refine c_place (k := k) hR bt8 e0 (by rw [x7' 71 3 (by omega)]; exact y3) w1 w4 p0 p1 hH hB (fun A9 f9 hr => b_X0_find_180 (hq F7 A9 ⟨fun z hz => ?_, fun a f h => ?_⟩ ⟨by rw [x7' 71 3 (by omega)]; exact y3, by rw [x7' 71 4 (by omega)]; exact y4, by rw [x7' 71 5 (by omega)]; exact y5, by rw [e0]; exact hsp.symm, by rw [x7' 71 1 (by omega), y1]; exact all.symm, by rw [hsp]; exact hr⟩))
        · rw [f9 z (by omega) (by omega), f8 z (by omega), f6 z (by omega), f5 z (by omega)]
        · rw [x7' a f (Or.inl h), x5 a f (Or.inl h), f4 a f h]
      refine b_X0_find_151 ?_
      rw [y1]
      refine ⟨fun hz F7 hF7 => rest 0 F7 hF7 ?_ (by decide) (by decide), fun hz F7 hF7 => ?_⟩
      · have n0 : n = 0 := by omega
        show spS (cfA σ kk) ((rows : Int)).toNat share (allS σ kk) = 0
        refine spS_eq (Int.le_refl 0) (by decide) (okR_t.2 ?_) (fun y y0 y1' => by omega)
        rw [all, n0]
        have := (T.bS0 0 (rows : Int).toNat 1).1
        show share * ((0 : Nat) : Int) ≤ _
        rw [show ((0 : Nat) : Int) = 0 from rfl, Int.mul_zero]; omega
      · have h6 := hx6 hz
        exact rest x6 F7 hF7 h6.1 h6.2.1 h6.2.2
    have lp : ∀ (g : Nat) (lo hi : Int) (A6 : Fn2) (w8 : Vv), g ≤ 9 → FRw A5 A6 → 0 ≤ lo → lo ≤ hi → hi ≤ 500 → hi - lo < 2 ^ g → okR (cfA σ kk) rows share n hi = true → (∀ y, 0 ≤ y → y < lo → okR (cfA σ kk) rows share n y ≠ true) → G X (k + 3) m_X0_find Q 70 [vA 71, vA 66, vI rows, vI share, vI kk, vI lo, vI hi, vI (9 - (g : Int)), w8] [] F5 A6 R := by
      intro g
      have done : ∀ (lo hi : Int), 0 ≤ lo → hi ≤ 500 → lo = hi → okR (cfA σ kk) rows share n hi = true → (∀ y, 0 ≤ y → y < lo → okR (cfA σ kk) rows share n y ≠ true) → ((n : Int) > 0 → spanS σ rows share kk = hi ∧ 0 ≤ hi ∧ hi ≤ 999) := fun lo hi l0 h5 e ok no _ => by
        subst e
        refine ⟨?_, l0, by omega⟩
        show spS (cfA σ kk) ((rows : Int)).toNat share (allS σ kk) = lo
        rw [all, Int.toNat_natCast]
        exact spS_eq l0 (by omega) ok no
      induction g with
      | zero =>
        intro lo hi A6 w8 hg f6 l0 lh h5 hd ok no
        have e : lo = hi := by rw [Int.pow_zero] at hd; omega
        exact b_X0_find_70 ⟨fun _ => fin A6 _ _ _ _ f6 (done lo hi l0 h5 e ok no), fun _ => ⟨fun _ => fin A6 _ _ _ _ f6 (done lo hi l0 h5 e ok no), fun h => absurd h (by omega)⟩⟩
      | succ g ih =>
        intro lo hi A6 w8 hg f6 l0 lh h5 hd ok no
        rw [Int.pow_succ] at hd
        refine b_X0_find_70 ⟨fun h => absurd (show 9 - ((g + 1 : Nat) : Int) < 20 by omega) h, fun _ => ⟨fun hge => fin A6 _ _ _ _ f6 (done lo hi l0 h5 (by omega) ok no), fun hlt => ?_⟩⟩
        rw [y1]
        refine ⟨fun hz => fin A6 _ _ _ _ f6 (fun h => absurd h (by omega)), fun hz => ⟨by omega, by omega, fun g1 hg1 => ?_⟩⟩
        have m0 : lo ≤ g1 ∧ g1 < hi := by omega
        refine c_bweigh (k := k + 1) hR (b5 F5 A6 f6 (fun _ _ => rfl)) y3 w1 w4 (by omega) (by omega) (fun A7 f7 hH hB => ?_)
        have f7' : FRw A5 A7 := fun z hz' => by rw [f7 z hz', f6 z hz']
        have eb := hB rows w1 (Nat.le_refl _) 1 (Int.le_refl 1) (by omega)
        have bb := T.bS0 g1 rows 1
        refine b_X0_find_106 hR ?_
        rw [y3, y4, y1, eb]
        refine ⟨by omega, by omega, by omega, by omega, fun hbad => ⟨by omega, fun g2 hg2 => ⟨by omega, ?_⟩⟩, fun hok => ⟨by omega, ?_⟩⟩
        · subst hg2
          rw [show 9 - ((g + 1 : Nat) : Int) + 1 = 9 - (g : Int) by omega]
          refine ih (g1 + 1) hi A7 _ (by omega) f7' (by omega) (by omega) h5 (by omega) ok (fun y y0 y1' z => ?_)
          have := okR_t.1 (T.okm (m := rows) (share := share) (show y ≤ g1 by omega) z)
          omega
        · rw [show 9 - ((g + 1 : Nat) : Int) + 1 = 9 - (g : Int) by omega]
          exact ih lo g1 A7 _ (by omega) f7' l0 m0.1 (by omega) (by omega) (okR_t.2 (by omega)) no
    exact lp 9 0 500 A5 vN (Nat.le_refl 9) (fun _ _ => rfl) (by decide) (by decide) (by decide) (by decide) (T.ok5 w1 w4 s0 s1) (fun y y0 y1' => by omega)
  refine Wp.of (k := k + 3) [vA 71, vA 66, vI rows, vI share, vI kk, vN, vN, vN, vN] rfl rfl rfl (b_X0_find_0 ⟨fun _ => g33, fun hf => ⟨fun _ => g33, fun e3 => ⟨fun _ => g33, fun e4 => ⟨fun _ => g33, fun e5 => ?_⟩⟩⟩⟩)
  rcases hBo with h | ⟨rows', share', kk', h⟩
  · exact absurd h hf
  · obtain ⟨a3, a4, a5, a0, a1, ar⟩ := id h
    have q1 : rows' = rows := by omega
    have q2 : share' = share := by omega
    have q3 : kk' = kk := by omega
    subst q1 q2 q3
    exact hq F A ⟨fun _ _ => rfl, fun _ _ _ => rfl⟩ h
theorem c_timeFor {X : Int × (Int → Int)} {k : Nat} {Q : Vv → Fn2 → Fn2 → Fn2 → Prop} {F A R : Fn2} {σ : Sg} {rows : Nat} {share kk len : Int} (hR : RS R) (h : BoA σ rows share kk F A) (w1 : 1 ≤ rows) (w4 : rows ≤ 4) (hq : Q (vI (tmR (cfA σ kk) (spanS σ rows share kk) rows (rwR (cfA σ kk) (spanS σ rows share kk) rows len (rows - 1) 0))) F A R) : Wp X (k + 1) m_X0_timeFor [vA 71, vI len] F A R Q := by
  obtain ⟨a3, a4, a5, a0, a1, ar⟩ := h
  revert hq ar
  generalize spanS σ rows share kk = r
  generalize cfA σ kk = c
  intro hq ar
  have inc : ∀ i : Nat, i + 1 < rows → stR c r rows i < stR c r rows (i + 1) := fun i hi => by
    have sb := stR_b (c := c) (r := r) w4 i (by omega)
    have eb := en_b (c := c) (r := r) (left := rows - i) (a := stR c r rows i) (by omega) sb.2
    show _ < en c r (rows - i) (stR c r rows i) + 1
    omega
  have lp : ∀ (g i j : Nat), j + g = rows → 1 ≤ j → i < j → (i + 1 = j ∧ rwR c r rows len (rows - 1 - i) i = rwR c r rows len (rows - 1) 0 ∨ i + 1 < j ∧ len < stR c r rows (j - 1) ∧ i = rwR c r rows len (rows - 1) 0) → G X k m_X0_timeFor Q 4 [vA 71, vI len, vI i, vI j] [] F A R := by
    intro g
    induction g with
    | zero =>
      intro i j hj j1 ij hc
      have e : i = rwR c r rows len (rows - 1) 0 := by
        rcases hc with ⟨x, y⟩ | ⟨x, y, z⟩
        · rw [← y, show rows - 1 - i = 0 by omega]; rfl
        · exact z
      refine b_X0_timeFor_4 hR ⟨fun _ => ⟨by omega, by omega, ?_⟩, fun h => absurd h (by rw [a3]; omega)⟩
      rw [(ar i (by omega)).2, e]; exact hq
    | succ g ih =>
      intro i j hj j1 ij hc
      refine b_X0_timeFor_4 hR ⟨fun h => absurd (show (j : Int) < F 71 3 by rw [a3]; omega) h, fun _ => ⟨by omega, by omega, ?_⟩⟩
      rw [(ar j (by omega)).1]
      refine ⟨fun hlt => ⟨by omega, ih i (j + 1) (by omega) (by omega) (by omega) (Or.inr ⟨by omega, hlt, ?_⟩)⟩, fun hge => ⟨by omega, ih j (j + 1) (by omega) (by omega) (by omega) (Or.inl ⟨rfl, ?_⟩)⟩⟩
      · rcases hc with ⟨x, y⟩ | ⟨x, y, z⟩
        · rw [← y, show rows - 1 - i = (rows - 2 - i) + 1 by omega]
          show i = if stR c r rows (i + 1) ≤ len then _ else i
          rw [x, if_neg (by omega)]
        · exact z
      · rcases hc with ⟨x, y⟩ | ⟨x, y, z⟩
        · rw [← y, show rows - 1 - i = (rows - 2 - i) + 1 by omega]
          show _ = if stR c r rows (i + 1) ≤ len then rwR c r rows len (rows - 2 - i) (i + 1) else i
          rw [x, if_pos (by omega), show rows - 2 - i = rows - 1 - j by omega]
        · have := inc (j - 1) (by omega)
          rw [show j - 1 + 1 = j by omega] at this
          omega
  exact Wp.of [vA 71, vI len, vN, vN] rfl rfl rfl (b_X0_timeFor_0 (lp (rows - 1) 0 1 (by omega) (by decide) (by decide) (Or.inl ⟨rfl, rfl⟩)))
theorem cs_bo {σ : Sg} {q : Int → Int} {l : Int} {F A R F' A' : Fn2} (hS : SgI σ) (hB : CB σ q l F A R) (hC : CC σ q l F A R) (hI : ShI σ F) (x : FRf F A F' A') : CS σ q l F A F' A' R := by
  have hq : QF F A R F' A' R := ⟨fun a ha => x.1 a (by unfold isB at ha; omega), fun a f ha => x.2 a f (by unfold isBF inQ at ha; omega), fun _ _ _ _ _ _ _ => rfl, fun h => by rw [x.1 188 (by omega)]; exact h, hB.1, fun a ha => ⟨x.1 a (by omega), funext fun f => x.2 a f (by omega)⟩⟩
  refine ⟨hS, hB.qf hq, hC.of (fun a h1 _ _ _ _ => x.1 a (by omega)) (fun i hi => ?_), hI.of (fun f _ _ => x.2 0 f (by decide)) rfl rfl rfl rfl rfl rfl rfl, fun a ha => ⟨x.1 a (by omega), funext fun f => x.2 a f (by omega)⟩⟩
  unfold crs
  exact ⟨x.2 _ _ (by omega), fun f => ⟨x.2 _ _ (by omega), rfl⟩⟩
theorem w_isBoard {X : Int × (Int → Int)} {k : Nat} {Q : Vv → Fn2 → Fn2 → Fn2 → Prop} {F A R : Fn2} {m s : Int} (h1 : 1 ≤ m ∧ m ≤ 4 ∧ 0 ≤ s ∧ s ≤ 100 → Q (vI 1) F A R) (h0 : ¬ (1 ≤ m ∧ m ≤ 4 ∧ 0 ≤ s ∧ s ≤ 100) → Q (vI 0) F A R) : Wp X (k + 1) m_X10_isBoard [vI m, vI s] F A R Q := by
  have no : ¬ (1 ≤ m ∧ m ≤ 4 ∧ 0 ≤ s ∧ s ≤ 100) → G X k m_X10_isBoard Q 24 [vI m, vI s] [] F A R := fun h => b_X10_isBoard_24 (h0 h)
  exact Wp.of [vI m, vI s] rfl rfl rfl (b_X10_isBoard_0 ⟨fun z => no (by omega), fun z1 => ⟨fun z => no (by omega), fun z2 => ⟨fun z => no (by omega), fun z3 => ⟨fun z => no (by omega), fun z4 => h1 (by omega)⟩⟩⟩⟩)
theorem c_span {X : Int × (Int → Int)} {k : Nat} {Q : Vv → Fn2 → Fn2 → Fn2 → Prop} {F A R : Fn2} {σ : Sg} {q : Int → Int} {l m s kk : Int} (hS : SgI σ) (hB : CB σ q l F A R) (hC : CC σ q l F A R) (hI : ShI σ F) (hBo : BoI σ F A) (hq : ∀ F' A', CS σ q l F A F' A' R → BoI σ F' A' → Q (vI (ansSpan σ m s kk)) F' A' R) : Wp X (k + 5) m_X10_span [vA 0, vI m, vI s, vI kk] F A R Q := by
  refine Wp.of (k := k + 4) [vA 0, vI m, vI s, vI kk] rfl rfl rfl (b_X10_span_0 (w_isBoard (k := k + 3) (fun ok => b_X10_span_5 hB.1 ⟨fun _ => ?_, fun h => absurd h (by decide)⟩) (fun hno => b_X10_span_5 hB.1 ⟨fun h => absurd rfl h, fun _ => ?_⟩)))
  · have em : m = ((m.toNat : Nat) : Int) := by omega
    rw [em]
    refine c_find0 (k := k) (σ := σ) hB.1 (hB.si hS) hBo (by omega) (by omega) (by omega) (by omega) (fun F' A' x bo => b_X10_span_24 hB.1 ?_)
    have := hq F' A' (cs_bo hS hB hC hI x) (Or.inr ⟨_, _, _, bo⟩)
    unfold ansSpan at this
    rw [if_pos ok] at this
    rw [bo.2.2.2.1, ← em]; exact this
  · have := hq F A (cs_bo hS hB hC hI ⟨fun _ _ => rfl, fun _ _ _ => rfl⟩) hBo
    unfold ansSpan at this
    rw [if_neg hno] at this
    exact this
theorem c_board {X : Int × (Int → Int)} {k : Nat} {Q : Vv → Fn2 → Fn2 → Fn2 → Prop} {F A R : Fn2} {σ : Sg} {q : Int → Int} {l m s len kk : Int} (hS : SgI σ) (hB : CB σ q l F A R) (hC : CC σ q l F A R) (hI : ShI σ F) (hBo : BoI σ F A) (hq : ∀ F' A', CS σ q l F A F' A' R → BoI σ F' A' → Q (vI (ansBoard σ m s len kk)) F' A' R) : Wp X (k + 5) m_X10_board [vA 0, vI m, vI s, vI len, vI kk] F A R Q := by
  have none : ¬ ((1 ≤ m ∧ m ≤ 4 ∧ 0 ≤ s ∧ s ≤ 100) ∧ 1 ≤ len ∧ len ≤ 99) → Q (vI (-1)) F A R := fun hno => by
    have := hq F A (cs_bo hS hB hC hI ⟨fun _ _ => rfl, fun _ _ _ => rfl⟩) hBo
    unfold ansBoard at this
    rw [if_neg (fun z => hno ⟨z.1, z.2.1, z.2.2.1⟩)] at this
    exact this
  refine Wp.of (k := k + 4) [vA 0, vI m, vI s, vI len, vI kk] rfl rfl rfl (b_X10_board_0 (w_isBoard (k := k + 3) (fun ok => b_X10_board_5 hB.1 ⟨fun h => absurd h (by decide), fun _ => ⟨fun h => none (fun z => by omega), fun h1 => ⟨fun h9 => ?_, fun h => none (fun z => by omega)⟩⟩⟩) (fun hno => b_X10_board_5 hB.1 ⟨fun _ => none (fun z => hno z.1), fun h => absurd rfl h⟩)))
  have em : m = ((m.toNat : Nat) : Int) := by omega
  rw [em]
  refine c_find0 (k := k) (σ := σ) hB.1 (hB.si hS) hBo (by omega) (by omega) (by omega) (by omega) (fun F' A' x bo => b_X10_board_36 hB.1 ?_)
  have fin := hq F' A' (cs_bo hS hB hC hI x) (Or.inr ⟨_, _, _, bo⟩)
  unfold ansBoard at fin
  rw [bo.2.2.2.2.1]
  refine ⟨fun hne => ?_, fun he => b_X10_board_58 ?_⟩
  · rw [if_pos ⟨ok, by omega, by omega, hne⟩] at fin
    refine c_timeFor (k := k + 3) hB.1 bo (by omega) (by omega) (b_X10_board_58 ?_)
    rw [← em]; exact fin
  · rw [if_neg (fun z => z.2.2.2 he)] at fin
    exact fin
