/-! THE BOARD, the reference's calls -/
theorem x_seek {X : Int × (Int → Int)} {k : Nat} {Q : Vv → Fn2 → Fn2 → Fn2 → Prop} {F A R : Fn2} {σ : Sg} {m : Nat} {share kk : Int} (hR : RS R) (hI : SiX σ F A) (m1 : 1 ≤ m) (m4 : m ≤ 4) (s0 : 0 ≤ share) (s1 : share ≤ 100) (hq : ∀ F' A' (n : Nat), allS σ kk = n → BdX (cfA σ kk) n F' A' → RwI (spanS σ m share kk) n A' → DpI (cfA σ kk) (spanS σ m share kk) m A' → 0 ≤ spanS σ m share kk → spanS σ m share kk ≤ 999 → (∀ z, z < 412 ∨ 416 < z → A' z = A z) → (∀ a f, a ≠ 373 ∨ f ≠ 74 → F' a f = F a f) → Q (vI (spanS σ m share kk)) F' A' R) : Wp X (k + 3) m_X11_seekSpan [vA 373, vI m, vI share, vI kk] F A R Q := by
  refine Wp.of (k := k + 2) [vA 373, vI m, vI share, vI kk, vN, vN, vN] rfl rfl rfl (b_X11_seekSpan_0 ?_)
  refine x_gather (k := k + 1) (σ := σ) (kk := kk) hR hI (fun F5 A5 n bt f5 x5 => b_X11_seekSpan_5 ?_)
  have T := bt.1
  have n60 := T.2.1
  have all : allS σ kk = n := T.all
  have sn := mul_b s0 s1 (show (0 : Int) ≤ n by omega) (show (n : Int) ≤ 60 by omega)
  have lp : ∀ (g : Nat) (lo hi : Int) (A6 : Fn2) (w6 : Vv), hi - lo ≤ g → FRm A5 A6 → 0 ≤ lo → lo ≤ hi → hi ≤ 999 → okR (cfA σ kk) m share n hi = true → (∀ y, 0 ≤ y → y < lo → okR (cfA σ kk) m share n y ≠ true) → G X (k + 2) m_X11_seekSpan Q 13 [vA 373, vI m, vI share, vI kk, vI lo, vI hi, w6] [] F5 A6 R := by
    intro g
    have done : ∀ (lo hi : Int) (A6 : Fn2) (w6 : Vv), FRm A5 A6 → 0 ≤ lo → hi ≤ 999 → lo = hi → okR (cfA σ kk) m share n hi = true → (∀ y, 0 ≤ y → y < lo → okR (cfA σ kk) m share n y ≠ true) → Wp X (k + 2) m_X11_mostHits [vA 373, vI m, vI lo] F5 A6 R (fun v F A R => G X (k + 2) m_X11_seekSpan Q 71 [vA 373, vI m, vI share, vI kk, vI lo, vI hi, w6] [v] F A R) := fun lo hi A6 w6 f6 l0 h9 e ok no => by
      subst e
      have esp : spanS σ m share kk = lo := by
        show spS (cfA σ kk) ((m : Int)).toNat share (allS σ kk) = lo
        rw [all, Int.toNat_natCast]
        exact spS_eq l0 h9 ok no
      refine x_most (k := k) hR (bt.m f6) m1 m4 l0 h9 (fun A7 f7 hr hd => b_X11_seekSpan_71 ?_)
      have b0 := (T.bS0 lo m 1).1
      refine ⟨fun _ => ?_, fun h => by omega⟩
      have := hq F5 A7 n all ((bt.m f6).m f7) (by rw [esp]; exact hr) (by rw [esp]; exact hd) (by omega) (by omega) (fun z hz => by rw [f7 z (by omega), f6 z (by omega), f5 z (by omega)]) x5
      rw [esp] at this; exact this
    induction g with
    | zero =>
      intro lo hi A6 w6 hg f6 l0 lh h9 ok no
      exact b_X11_seekSpan_13 ⟨fun _ => done lo hi A6 w6 f6 l0 h9 (by omega) ok no, fun h => absurd h (by omega)⟩
    | succ g ih =>
      intro lo hi A6 w6 hg f6 l0 lh h9 ok no
      refine b_X11_seekSpan_13 ⟨fun h => done lo hi A6 w6 f6 l0 h9 (by omega) ok no, fun hlt => ⟨by omega, by omega, fun g1 hg1 => ?_⟩⟩
      have m0 : lo ≤ g1 ∧ g1 < hi := by omega
      refine x_most (k := k) hR (bt.m f6) m1 m4 (by omega) (by omega) (fun A7 f7 hr hd => b_X11_seekSpan_36 ?_)
      rw [bt.2.1]
      have bb := T.bS0 g1 m 1
      have f7' : FRm A5 A7 := fun z hz => by rw [f7 z hz, f6 z hz]
      refine ⟨by omega, by omega, fun hok => ?_, fun hbad => ⟨by omega, fun g2 hg2 => ?_⟩⟩
      · exact ih lo g1 A7 _ (by omega) f7' l0 m0.1 (by omega) (okR_t.2 (by omega)) no
      · subst hg2
        refine ih (g1 + 1) hi A7 _ (by omega) f7' (by omega) (by omega) h9 ok (fun y y0 y1 z => ?_)
        have := okR_t.1 (T.okm (m := m) (share := share) (show y ≤ g1 by omega) z)
        omega
  exact lp 999 0 999 A5 vN (by decide) (fun _ _ => rfl) (by decide) (by decide) (by decide) (T.okm (by decide) (T.ok5 m1 m4 s0 s1)) (fun y y0 y1 => by omega)
theorem rf_bo {F A F' A' : Fn2} (h : ∀ z, z < 412 ∨ 416 < z → A' z = A z) (h' : ∀ a f, a ≠ 373 ∨ f ≠ 74 → F' a f = F a f) : RF F A F' A' := ⟨fun a ha => h a (by omega), fun f hf => h' 373 f (by omega), fun a ha => funext fun f => h' a f (Or.inl ha)⟩
theorem x_isBoard {X : Int × (Int → Int)} {k : Nat} {Q : Vv → Fn2 → Fn2 → Fn2 → Prop} {F A R : Fn2} {m s : Int} (h1 : 1 ≤ m ∧ m ≤ 4 ∧ 0 ≤ s ∧ s ≤ 100 → Q (vI 1) F A R) (h0 : ¬ (1 ≤ m ∧ m ≤ 4 ∧ 0 ≤ s ∧ s ≤ 100) → Q (vI 0) F A R) : Wp X (k + 2) m_X11_isBoard [vI m, vI s] F A R Q :=
  Wp.of (k := k + 1) [vI m, vI s] rfl rfl rfl (b_X11_isBoard_0 (x_isIn (k := k) (fun a b => b_X11_isBoard_6 ⟨fun z => absurd z (by decide), fun _ => x_isIn (k := k) (fun c d => b_X11_isBoard_16 ⟨fun z => absurd z (by decide), fun _ => h1 ⟨a, b, c, d⟩⟩) (fun n => b_X11_isBoard_16 ⟨fun _ => h0 (fun z => n ⟨z.2.2.1, z.2.2.2⟩), fun z => absurd rfl z⟩)⟩) (fun n => b_X11_isBoard_6 ⟨fun _ => h0 (fun z => n ⟨z.1, z.2.1⟩), fun z => absurd rfl z⟩)))
theorem r_span {X : Int × (Int → Int)} {k : Nat} {Q : Vv → Fn2 → Fn2 → Fn2 → Prop} {F A R : Fn2} {σ : Sg} {b : Int → Int} {m s kk : Int} (hR : RS R) (hS : SgI σ) (hX : XI σ b F A) (hq : ∀ F' A', RF F A F' A' → Q (vI (ansSpan σ m s kk)) F' A' R) : Wp X (k + 4) m_X11_span [vA 373, vI m, vI s, vI kk] F A R Q := by
  refine Wp.of (k := k + 3) [vA 373, vI m, vI s, vI kk] rfl rfl rfl (b_X11_span_0 (x_isBoard (k := k + 1) (fun ok => b_X11_span_5 ⟨fun h => absurd h (by decide), fun _ => ?_⟩) (fun hno => b_X11_span_5 ⟨fun _ => ?_, fun h => absurd rfl h⟩)))
  · have em : m = ((m.toNat : Nat) : Int) := by omega
    rw [em]
    refine x_seek (k := k) hR (hX.si hS) (by omega) (by omega) (by omega) (by omega) (fun F' A' n _ _ _ _ _ _ a f => b_X11_span_15 ?_)
    have := hq F' A' (rf_bo a f)
    unfold ansSpan at this
    rw [if_pos ok] at this
    rw [← em]; exact this
  · have := hq F A RF.refl
    unfold ansSpan at this
    rw [if_neg hno] at this
    exact this
theorem r_board {X : Int × (Int → Int)} {k : Nat} {Q : Vv → Fn2 → Fn2 → Fn2 → Prop} {F A R : Fn2} {σ : Sg} {b : Int → Int} {m s len kk : Int} (hR : RS R) (hS : SgI σ) (hX : XI σ b F A) (hq : ∀ F' A', RF F A F' A' → Q (vI (ansBoard σ m s len kk)) F' A' R) : Wp X (k + 4) m_X11_board [vA 373, vI m, vI s, vI len, vI kk] F A R Q := by
  have none : ¬ ((1 ≤ m ∧ m ≤ 4 ∧ 0 ≤ s ∧ s ≤ 100) ∧ 1 ≤ len ∧ len ≤ 99) → Q (vI (-1)) F A R := fun hno => by
    have := hq F A RF.refl
    unfold ansBoard at this
    rw [if_neg (fun z => hno ⟨z.1, z.2.1, z.2.2.1⟩)] at this
    exact this
  refine Wp.of (k := k + 3) [vA 373, vI m, vI s, vI len, vI kk, vN, vN, vN] rfl rfl rfl (b_X11_board_0 (x_isBoard (k := k + 1) (fun ok => b_X11_board_5 ⟨fun h => absurd h (by decide), fun _ => x_isIn (k := k + 2) (fun a c => b_X11_board_15 ⟨fun _ => ?_, fun h => absurd h (by decide)⟩) (fun n => b_X11_board_15 ⟨fun h => absurd rfl h, fun _ => none (fun z => n ⟨z.2.1, z.2.2⟩)⟩)⟩) (fun hno => b_X11_board_5 ⟨fun _ => none (fun z => hno z.1), fun h => absurd rfl h⟩)))
  obtain ⟨mm, rfl⟩ : ∃ mm : Nat, m = mm := ⟨m.toNat, by omega⟩
  refine x_seek (k := k) hR (hX.si hS) (by omega) (by omega) (by omega) (by omega) (fun F' A' n en' bt hr hd p0 p1 af ff => b_X11_board_28 ?_)
  have fin := hq F' A' (rf_bo af ff)
  unfold ansBoard at fin
  rw [bt.2.1]
  have w4 : mm ≤ 4 := by omega
  have w1 : 1 ≤ mm := by omega
  refine ⟨fun hne => ?_, fun he => ?_⟩
  · rw [if_pos ⟨ok, by omega, by omega, by rw [en']; exact hne⟩, Int.toNat_natCast] at fin
    revert fin hr hd p0 p1
    generalize spanS σ mm s kk = r
    revert bt
    generalize cfA σ kk = c
    intro bt hr hd p0 p1 fin
    have fin' := fin
    have lp : ∀ (g i : Nat), i + 1 + g = mm → rwR c r mm len (mm - 1 - i) i = rwR c r mm len (mm - 1) 0 → G X (k + 3) m_X11_board Q 45 [vA 373, vI mm, vI s, vI len, vI kk, vI r, vI (stR c r mm i), vI ((mm : Int) - i)] [] F' A' R := by
      intro g
      have stop : ∀ i : Nat, i + 1 ≤ mm → i = rwR c r mm len (mm - 1) 0 → (¬ r < 0 → Wp X (k + 3) m_X11_shorter [vA 373, vI (stR c r mm i)] F' A' R (fun v F A R => G X (k + 3) m_X11_board Q 114 [vA 373, vI mm, vI s, vI len, vI kk, vI r, vI (stR c r mm i), vI ((mm : Int) - i)] [v, vI 61, vA 413] F A R)) ∧ (r < 0 → Q (vI (-1)) F' A' R) := by
        intro i hi ei
        refine ⟨fun _ => ?_, fun h => by omega⟩
        have sb := stR_b (c := c) (r := r) w4 i (by omega)
        have eb := en_b (c := c) (r := r) (left := mm - i) (a := stR c r mm i) (by omega) sb.2
        have dd := (hd (mm - i) (by omega) (by omega) (stR c r mm i) sb.1 (by omega)).2
        have ez : ((mm : Int) - i) - 1 = ((mm - i : Nat) : Int) - 1 := by omega
        have hs1 := (shX_p bt.2.2.1 (stR c r mm i)).1
        have hs2 := (shX_p bt.2.2.1 (en c r (mm - i) (stR c r mm i) + 1)).1
        have n60 := bt.1.2.1
        refine x_shorter (k := k + 2) hR bt (b_X11_board_114 hR (show Y1.1 413 = 0 by decide +kernel) (show Y1.2.1 413 = 3782 by decide +kernel) ?_)
        rw [ez, dd]
        unfold nxR
        rw [if_pos (by omega)]
        refine ⟨by omega, by omega, by omega, by omega, by omega, by omega, x_shorter (k := k + 2) hR bt (b_X11_board_134 (show Y1.1 413 = 0 by decide +kernel) (show Y1.2.1 413 = 3782 by decide +kernel) ⟨by omega, by omega, by omega, ?_⟩)⟩
        rw [(hr.mt bt p0 (x := stR c r mm i) (y := en c r (mm - i) (stR c r mm i)) (by omega)).2]
        rw [← ei] at fin'
        exact fin'
      induction g with
      | zero =>
        intro i hi hw
        have ei : i = rwR c r mm len (mm - 1) 0 := by rw [← hw, show mm - 1 - i = 0 by omega]; rfl
        exact b_X11_board_45 hR ⟨fun _ => stop i (by omega) ei, fun h => absurd h (by omega)⟩
      | succ g ih =>
        intro i hi hw
        have sb := stR_b (c := c) (r := r) w4 i (by omega)
        have dd := (hd (mm - i) (by omega) (by omega) (stR c r mm i) sb.1 (by omega)).2
        have ez : ((mm : Int) - i) - 1 = ((mm - i : Nat) : Int) - 1 := by omega
        have enx : nxR c r (mm - i) (stR c r mm i) = stR c r mm (i + 1) := by
          unfold nxR; rw [if_pos (by omega)]; rfl
        have ew : rwR c r mm len (mm - 1 - i) i = if stR c r mm (i + 1) ≤ len then rwR c r mm len (mm - 2 - i) (i + 1) else i := by
          rw [show mm - 1 - i = (mm - 2 - i) + 1 by omega]; rfl
        refine b_X11_board_45 hR ⟨fun h => absurd (show (1 : Int) < (mm : Int) - i by omega) h, fun _ => ?_⟩
        rw [ez, dd, enx]
        refine ⟨by omega, by omega, by omega, by omega, by omega, fun hlt => stop i (by omega) ?_, fun hge g3 hg3 => ⟨by omega, ?_⟩⟩
        · rw [← hw, ew, if_neg (by omega)]
        · subst hg3
          rw [show (mm : Int) - i + -1 = (mm : Int) - ((i + 1 : Nat) : Int) by omega]
          refine ih (i + 1) (by omega) ?_
          rw [← hw, ew, if_pos (by omega), show mm - 2 - i = mm - 1 - (i + 1) by omega]
    have := lp (mm - 1) 0 (by omega) rfl
    rw [show (mm : Int) - ((0 : Nat) : Int) = mm by omega] at this
    exact this
  · rw [if_neg (fun z => z.2.2.2 (by rw [en']; exact he))] at fin
    exact fin
