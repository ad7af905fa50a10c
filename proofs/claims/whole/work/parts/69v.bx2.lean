/-! THE BOARD, the reference: the best, and the two calls -/
def nxR (c : Cf) (r : Int) (lv : Nat) (a : Int) : Int := if a + lv ≤ 100 then en c r lv a + 1 else 100
def bsR (c : Cf) (r : Int) (lv : Nat) (a : Int) : Int := if a + lv ≤ 100 then bS c r lv a else -1
/-- all rows are weighed -/
def RwI (r : Int) (n : Nat) (A : Fn2) : Prop := ∀ a b : Nat, a ≤ b → b ≤ n → RwP (XT A 409) r a b b (A 412 (61 * (a : Int) + b)) (A 413 (61 * (a : Int) + b))
def DpI (c : Cf) (r : Int) (lv : Nat) (A : Fn2) : Prop := ∀ i : Nat, 1 ≤ i → i ≤ lv → ∀ a : Int, 1 ≤ a → a ≤ 100 → A 414 (101 * ((i : Int) - 1) + a) = bsR c r i a ∧ A 415 (101 * ((i : Int) - 1) + a) = nxR c r i a
abbrev FRm (A A' : Fn2) : Prop := ∀ z, z < 412 ∨ 415 < z → A' z = A z
theorem BdX.m {c : Cf} {n : Nat} {F A A' : Fn2} (h : BdX c n F A) (x : FRm A A') : BdX c n F A' := by
  have e8 : XT A' 408 = XT A 408 := by unfold XT; rw [x 408 (by decide), x 416 (by decide)]
  have e9 : XT A' 409 = XT A 409 := by unfold XT; rw [x 409 (by decide), x 416 (by decide)]
  unfold BdX
  rw [e8, e9, x 416 (by decide)]
  exact h
theorem FRm.x9 {A A' : Fn2} (x : FRm A A') : XT A' 409 = XT A 409 ∧ XT A' 408 = XT A 408 := by
  unfold XT; rw [x 408 (by decide), x 409 (by decide), x 416 (by decide)]; exact ⟨rfl, rfl⟩
/-- the least place of the greatest -/
def ArgL (f : Int → Int) (i : Int) (m : Nat) (a : Int) : Prop := i ≤ a ∧ a < i + m ∧ f a = mxr f i m ∧ ∀ x, i ≤ x → x < a → f x ≠ mxr f i m
theorem en_arg {c : Cf} {r a x : Int} {l : Nat} (h : ArgL (fun to => mH c a to r + bS c r (l + 1) (to + 1)) a (99 - (l : Int) - a).toNat x) (ha : a + (l + 2 : Nat) ≤ 100) : en c r (l + 2) a = x := by
  obtain ⟨h1, h2, h3, h4⟩ := h
  unfold en
  rw [if_neg (by omega)]
  refine fstI_eq _ _ h1 (by omega) (Or.inl (decide_eq_true h3)) (fun j j0 j1 => ?_)
  rw [ne_eq, decide_eq_true_iff]
  exact h4 j j0 j1
/-- the rows' part -/
theorem x_wall {X : Int × (Int → Int)} {k : Nat} {Q : Vv → Fn2 → Fn2 → Fn2 → Prop} {R : Fn2} {c : Cf} {n m : Nat} {r : Int} {F A : Fn2} (hR : RS R) (bt : BdX c n F A) (r0 : 0 ≤ r) (r1 : r ≤ 999) (hq : ∀ A' w4, FRm A A' → RwI r n A' → G X (k + 1) m_X11_mostHits Q 44 [vA 373, vI m, vI r, vI 1, w4, vN, vN, vN, vN] [] F A' R) : G X (k + 1) m_X11_mostHits Q 2 [vA 373, vI m, vI r, vI 0, vN, vN, vN, vN, vN] [] F A R := by
  have n60 := bt.1.2.1
  have l13 : ∀ (a : Nat), a ≤ n → (∀ A1, FRm A A1 → (∀ x y : Nat, x ≤ a → x ≤ y → y ≤ n → RwP (XT A 409) r x y y (A1 412 (61 * (x : Int) + y)) (A1 413 (61 * (x : Int) + y))) → ∀ w4, G X (k + 1) m_X11_mostHits Q 2 [vA 373, vI m, vI r, vI ((a : Int) + 1), vI w4, vN, vN, vN, vN] [] F A1 R) → ∀ (g b : Nat) (A1 : Fn2), b + g = n + 1 → a ≤ b → FRm A A1 → (∀ x y : Nat, x < a → x ≤ y → y ≤ n → RwP (XT A 409) r x y y (A1 412 (61 * (x : Int) + y)) (A1 413 (61 * (x : Int) + y))) → (∀ y : Nat, a ≤ y → y < b → RwP (XT A 409) r a y y (A1 412 (61 * (a : Int) + y)) (A1 413 (61 * (a : Int) + y))) → G X (k + 1) m_X11_mostHits Q 13 [vA 373, vI m, vI r, vI a, vI b, vN, vN, vN, vN] [] F A1 R := by
    intro a ha cont g
    induction g with
    | zero =>
      intro b A1 hb hab f1 hx hy
      refine b_X11_mostHits_13 ⟨fun _ => ⟨by omega, cont A1 f1 (fun x y xa xy yn => ?_) _⟩, fun h => absurd (show F 373 74 < (b : Int) by rw [bt.2.1]; omega) h⟩
      by_cases e : x = a
      · subst e; exact hy y xy (by omega)
      · exact hx x y (by omega) xy yn
    | succ g ih =>
      intro b A1 hb hab f1 hx hy
      refine b_X11_mostHits_13 ⟨fun h => absurd h (by rw [bt.2.1]; omega), fun _ => ?_⟩
      refine x_wrow (k := k) hR (bt.m f1) hab (by omega) r0 r1 (fun A2 v t hA2 hp => b_X11_mostHits_30 ⟨by omega, ?_⟩)
      rw [(FRm.x9 f1).1] at hp
      have e2 : ∀ z i, (z = 412 ∨ z = 413) → i ≠ 61 * (a : Int) + b → A2 z i = A1 z i := fun z i hz hi => by
        rw [hA2]
        rcases hz with rfl | rfl
        · rw [st2_n (by decide), st2_s, u1_n hi]
        · rw [st2_s, u1_n hi, st2_n (by decide)]
      have e3 : A2 412 (61 * (a : Int) + b) = v ∧ A2 413 (61 * (a : Int) + b) = t := by
        rw [hA2, st2_n (by decide), st2_s, u1_s, st2_s, u1_s]; exact ⟨rfl, rfl⟩
      refine ih (b + 1) A2 (by omega) (by omega) (fun z hz => by rw [hA2, st2_n (by omega), st2_n (by omega)]; exact f1 z hz) (fun x y xa xy yn => ?_) (fun y y0 y1 => ?_)
      · rw [e2 412 _ (Or.inl rfl) (by omega), e2 413 _ (Or.inr rfl) (by omega)]; exact hx x y xa xy yn
      · by_cases e : y = b
        · subst e; rw [e3.1, e3.2]; exact hp
        · rw [e2 412 _ (Or.inl rfl) (by omega), e2 413 _ (Or.inr rfl) (by omega)]; exact hy y y0 (by omega)
  have l2 : ∀ (g a : Nat) (A1 : Fn2) (w4 : Vv), a + g = n + 1 → FRm A A1 → (∀ x y : Nat, x < a → x ≤ y → y ≤ n → RwP (XT A 409) r x y y (A1 412 (61 * (x : Int) + y)) (A1 413 (61 * (x : Int) + y))) → G X (k + 1) m_X11_mostHits Q 2 [vA 373, vI m, vI r, vI a, w4, vN, vN, vN, vN] [] F A1 R := by
    intro g
    induction g with
    | zero =>
      intro a A1 w4 ha f1 hx
      refine b_X11_mostHits_2 ⟨fun _ => hq A1 w4 f1 (fun x y xy yn => by rw [(FRm.x9 f1).1]; exact hx x y (by omega) xy yn), fun h => absurd (show F 373 74 < (a : Int) by rw [bt.2.1]; omega) h⟩
    | succ g ih =>
      intro a A1 w4 ha f1 hx
      refine b_X11_mostHits_2 ⟨fun h => absurd h (by rw [bt.2.1]; omega), fun _ => ?_⟩
      exact l13 a (by omega) (fun A2 f2 hx2 w => ih (a + 1) A2 _ (by omega) f2 (fun x y xa xy yn => hx2 x y (by omega) xy yn)) (n + 1 - a) a A1 (by omega) (Nat.le_refl a) f1 hx (fun y y0 y1 => absurd y1 (by omega))
  exact l2 (n + 1) 0 A vN (by omega) (fun _ _ => rfl) (fun x y xa _ _ => absurd xa (by omega))
theorem RwI.mt {c : Cf} {n : Nat} {r x y : Int} {F A : Fn2} (h : RwI r n A) (bt : BdX c n F A) (r0 : 0 ≤ r) (xy : x ≤ y + 1) : A 412 (61 * (shX (XT A 408) n x : Int) + (shX (XT A 408) n (y + 1) : Int)) = mH c x y r ∧ A 413 (61 * (shX (XT A 408) n x : Int) + (shX (XT A 408) n (y + 1) : Int)) = tH c x y r := by
  have sx := shX_p bt.2.2.1 x
  have sy := shX_p bt.2.2.1 (y + 1)
  have le : shX (XT A 408) n x ≤ shX (XT A 408) n (y + 1) := by
    by_cases z : shX (XT A 408) n x ≤ shX (XT A 408) n (y + 1)
    · exact z
    · have a := (sy.2 (shX (XT A 408) n (y + 1)) (by omega) (by omega)).2 (Int.le_refl _)
      have := (sx.2 (shX (XT A 408) n (y + 1)) (by omega) (by omega)).1 (by omega)
      omega
  exact (h _ _ le sy.1).mt bt.1 bt.2.2.1 r0
theorem sh100 {c : Cf} {n : Nat} {F A : Fn2} (bt : BdX c n F A) : shX (XT A 408) n (99 + 1) = n := by
  have s := shX_p bt.2.2.1 (99 + 1)
  by_cases z : shX (XT A 408) n (99 + 1) = n
  · exact z
  · have := (s.2 (shX (XT A 408) n (99 + 1)) (by omega) (by omega)).2 (Int.le_refl _)
    have := bt.1.2.2 (shX (XT A 408) n (99 + 1)) (by omega) (by omega)
    omega
theorem x_most {X : Int × (Int → Int)} {k : Nat} {Q : Vv → Fn2 → Fn2 → Fn2 → Prop} {F A R : Fn2} {c : Cf} {n m : Nat} {r : Int} (hR : RS R) (bt : BdX c n F A) (m1 : 1 ≤ m) (m4 : m ≤ 4) (r0 : 0 ≤ r) (r1 : r ≤ 999) (hq : ∀ A', FRm A A' → RwI r n A' → DpI c r m A' → Q (vI (bS c r m 1)) F A' R) : Wp X (k + 2) m_X11_mostHits [vA 373, vI m, vI r] F A R Q := by
  have T := bt.1
  have n60 := T.2.1
  refine Wp.of (k := k + 1) [vA 373, vI m, vI r, vN, vN, vN, vN, vN, vN] rfl rfl rfl (b_X11_mostHits_0 (x_wall (k := k) hR bt r0 r1 (fun A0 w40 f0 hrw => ?_)))
  -- only the best change from here
  have frw : ∀ A1 : Fn2, (∀ z, z ≠ 414 → z ≠ 415 → A1 z = A0 z) → FRm A A1 ∧ RwI r n A1 ∧ BdX c n F A1 := fun A1 h => by
    have f1 : FRm A A1 := fun z hz => by rw [h z (by omega) (by omega)]; exact f0 z hz
    refine ⟨f1, fun a b ab bn => ?_, bt.m f1⟩
    rw [(FRm.x9 f1).1, ← (FRm.x9 f0).1, h 412 (by decide) (by decide), h 413 (by decide) (by decide)]
    exact hrw a b ab bn
  -- the last loop: one more row
  have l155 : ∀ (lv : Nat), lv + 2 ≤ m → ∀ (a : Int), 1 ≤ a → a ≤ 100 → (∀ A1, (∀ z, z ≠ 414 → z ≠ 415 → A1 z = A0 z) → DpI c r (lv + 1) A1 → (∀ x : Int, 1 ≤ x → x ≤ a → A1 414 (101 * (((lv + 2 : Nat) : Int) - 1) + x) = bsR c r (lv + 2) x ∧ A1 415 (101 * (((lv + 2 : Nat) : Int) - 1) + x) = nxR c r (lv + 2) x) → ∀ x5 x6 x7 w8, G X (k + 1) m_X11_mostHits Q 106 [vA 373, vI m, vI r, vI (lv + 2 : Nat), vI (a + 1), vI x5, vI x6, vI x7, w8] [] F A1 R) → ∀ (g i : Nat) (A1 : Fn2) (w8 : Vv), a + 1 + i + g = max 100 (a + 1) → (∀ z, z ≠ 414 → z ≠ 415 → A1 z = A0 z) → DpI c r (lv + 1) A1 → (∀ x : Int, 1 ≤ x → x < a → A1 414 (101 * (((lv + 2 : Nat) : Int) - 1) + x) = bsR c r (lv + 2) x ∧ A1 415 (101 * (((lv + 2 : Nat) : Int) - 1) + x) = nxR c r (lv + 2) x) → ((min i (99 - (lv : Int) - a).toNat = 0 ∧ A1 414 (101 * (((lv + 2 : Nat) : Int) - 1) + a) = -1 ∧ A1 415 (101 * (((lv + 2 : Nat) : Int) - 1) + a) = 100) ∨ (0 < min i (99 - (lv : Int) - a).toNat ∧ A1 414 (101 * (((lv + 2 : Nat) : Int) - 1) + a) = mxr (fun to => mH c a to r + bS c r (lv + 1) (to + 1)) a (min i (99 - (lv : Int) - a).toNat) ∧ ∃ y, ArgL (fun to => mH c a to r + bS c r (lv + 1) (to + 1)) a (min i (99 - (lv : Int) - a).toNat) y ∧ A1 415 (101 * (((lv + 2 : Nat) : Int) - 1) + a) = y + 1)) → G X (k + 1) m_X11_mostHits Q 155 [vA 373, vI m, vI r, vI (lv + 2 : Nat), vI a, vI (101 * (((lv + 2 : Nat) : Int) - 1) + a), vI (shX (XT A 408) n a), vI (a + 1 + i), w8] [] F A1 R := by
    intro lv hlv a a0 a1 cont g
    induction g with
    | zero =>
      intro i A1 w8 hi h1 hD hx hc
      refine b_X11_mostHits_155 hR ⟨fun _ => ⟨by omega, cont A1 h1 hD (fun x x0 x1 => ?_) _ _ _ _⟩, fun h => absurd h (by omega)⟩
      by_cases e : x = a
      · subst e
        rcases hc with ⟨c1, c2, c3⟩ | ⟨c1, c2, y, c3, c4⟩
        · unfold bsR nxR
          rw [if_neg (by omega), if_neg (by omega)]; exact ⟨c2, c3⟩
        · have em : min i (99 - (lv : Int) - x).toNat = (99 - (lv : Int) - x).toNat := by omega
          rw [em] at c2 c3
          unfold bsR nxR
          rw [if_pos (by omega), if_pos (by omega), en_arg c3 (by omega)]
          exact ⟨c2, c4⟩
      · exact hx x x0 (by omega)
    | succ g ih =>
      intro i A1 w8 hi h1 hD hx hc
      have t99 : a + 1 + (i : Int) ≤ 99 := by omega
      have ep := (hD (lv + 1) (by omega) (Nat.le_refl _) (a + 1 + i) (by omega) (by omega)).1
      have ez : (101 : Int) * (((lv + 2 : Nat) : Int) - 2) + (a + 1 + i) = 101 * (((lv + 1 : Nat) : Int) - 1) + (a + 1 + i) := by omega
      refine b_X11_mostHits_155 hR ⟨fun h => absurd (show a + 1 + (i : Int) < 100 by omega) h, fun _ => ?_⟩
      rw [ez, ep]
      have keep : ∀ w8', min (i + 1) (99 - (lv : Int) - a).toNat = min i (99 - (lv : Int) - a).toNat → G X (k + 1) m_X11_mostHits Q 155 [vA 373, vI m, vI r, vI (lv + 2 : Nat), vI a, vI (101 * (((lv + 2 : Nat) : Int) - 1) + a), vI (shX (XT A 408) n a), vI (a + 1 + i + 1), w8'] [] F A1 R := fun w8' he => by
        have := ih (i + 1) A1 w8' (by omega) h1 hD hx (by rw [he]; exact hc)
        rw [show a + 1 + ((i + 1 : Nat) : Int) = a + 1 + (i : Int) + 1 by omega] at this
        exact this
      refine ⟨by omega, by omega, by omega, by omega, by omega, fun hfe => ?_, fun hin => ⟨by omega, keep _ ?_⟩⟩
      · -- one that can be
        have fe : a + 1 + (i : Int) + (lv + 1 : Nat) ≤ 100 := by
          unfold bsR at hfe
          split at hfe
          · assumption
          · exact absurd (show (-1 : Int) < 0 by decide) hfe
        obtain ⟨fr, rw1, bt1⟩ := frw A1 h1
        have bx := bt1.2.1
        have e08 := (FRm.x9 fr).2
        have sb := (shX_p bt1.2.2.1 a).1
        have sb2 := (shX_p bt1.2.2.1 (a + i + 1)).1
        rw [e08] at sb sb2
        refine ⟨by omega, x_shorter (k := k) hR bt1 (b_X11_mostHits_197 hR (show Y1.1 412 = 0 by decide +kernel) (show Y1.2.1 412 = 3782 by decide +kernel) ?_)⟩
        rw [e08, show a + 1 + (i : Int) = (a + i) + 1 by omega]
        have ev := (rw1.mt bt1 r0 (x := a) (y := a + i) (by omega)).1
        rw [e08] at ev
        have ez' : (101 : Int) * (((lv + 2 : Nat) : Int) - 2) + (a + i + 1) = 101 * (((lv + 1 : Nat) : Int) - 1) + (a + 1 + i) := by omega
        have ebs : bsR c r (lv + 1) (a + 1 + i) = bS c r (lv + 1) (a + i + 1) := by
          unfold bsR; rw [if_pos fe, show a + 1 + (i : Int) = a + i + 1 by omega]
        rw [ez', ep, ebs, ev]
        have b1 := T.mH0 a (a + i) r
        have b2 := T.bS0 r (lv + 1) (a + i + 1)
        refine ⟨by omega, by omega, by omega, by omega, by omega, by omega, by omega, by omega, by omega, fun g1 hg1 => ⟨by omega, by omega, ?_⟩⟩
        have mi : min i (99 - (lv : Int) - a).toNat = i := by omega
        have mi1 : min (i + 1) (99 - (lv : Int) - a).toNat = i + 1 := by omega
        rw [mi] at hc
        have fx : (fun to => mH c a to r + bS c r (lv + 1) (to + 1)) (a + i) = g1 := hg1.symm
        have ms : mxr (fun to => mH c a to r + bS c r (lv + 1) (to + 1)) a (i + 1) = max (mxr (fun to => mH c a to r + bS c r (lv + 1) (to + 1)) a i) g1 := by rw [mxr_s, hg1]
        have nx : ∀ (A2 : Fn2) w8', (∀ z, z ≠ 414 → z ≠ 415 → A2 z = A0 z) → DpI c r (lv + 1) A2 → (∀ x : Int, 1 ≤ x → x < a → A2 414 (101 * (((lv + 2 : Nat) : Int) - 1) + x) = bsR c r (lv + 2) x ∧ A2 415 (101 * (((lv + 2 : Nat) : Int) - 1) + x) = nxR c r (lv + 2) x) → A2 414 (101 * (((lv + 2 : Nat) : Int) - 1) + a) = mxr (fun to => mH c a to r + bS c r (lv + 1) (to + 1)) a (i + 1) → (∃ y, ArgL (fun to => mH c a to r + bS c r (lv + 1) (to + 1)) a (i + 1) y ∧ A2 415 (101 * (((lv + 2 : Nat) : Int) - 1) + a) = y + 1) → G X (k + 1) m_X11_mostHits Q 155 [vA 373, vI m, vI r, vI (lv + 2 : Nat), vI a, vI (101 * (((lv + 2 : Nat) : Int) - 1) + a), vI (shX (XT A 408) n a), vI (a + i + 1 + 1), w8'] [] F A2 R := fun A2 w8' z1 z2 z3 z4 z5 => by
          have := ih (i + 1) A2 w8' (by omega) z1 z2 z3 (Or.inr ⟨by omega, by rw [mi1]; exact z4, by rw [mi1]; exact z5⟩)
          rw [show a + 1 + ((i + 1 : Nat) : Int) = a + (i : Int) + 1 + 1 by omega] at this
          exact this
        refine ⟨fun hlt A2 hA2 A3 hA3 => ⟨by omega, nx A3 _ (fun z z0 z1 => by rw [hA3, st2_n z1, hA2, st2_n z0]; exact h1 z z0 z1) (fun j j1 j2 x x0 x1 => ?_) (fun x x0 x1 => ?_) ?_ ⟨a + i, ?_, ?_⟩⟩, fun hge => ⟨by omega, nx A1 _ h1 hD hx ?_ ?_⟩⟩
        · rw [hA3, st2_n (by decide), hA2, st2_s, u1_n (by omega), st2_s, u1_n (by omega), st2_n (by decide)]; exact hD j j1 j2 x x0 x1
        · rw [hA3, st2_n (by decide), hA2, st2_s, u1_n (by omega), st2_s, u1_n (by omega), st2_n (by decide)]; exact hx x x0 x1
        · rw [hA3, st2_n (by decide), hA2, st2_s, u1_s, ms]
          rcases hc with ⟨c1, c2, c3⟩ | ⟨c1, c2, c3⟩
          · rw [c1]
            show g1 = max 0 g1
            omega
          · rw [c2] at hlt; omega
        · refine ⟨by omega, by omega, ?_, fun x x0 x1 xe => ?_⟩
          · rw [ms, fx]
            rcases hc with ⟨c1, c2, c3⟩ | ⟨c1, c2, c3⟩
            · rw [c1]
              show g1 = max 0 g1
              omega
            · rw [c2] at hlt; omega
          · have := mxr_le (f := fun to => mH c a to r + bS c r (lv + 1) (to + 1)) (i := a) (j := x) i x0 (by omega)
            have xe2 : mH c a x r + bS c r (lv + 1) (x + 1) = max (mxr (fun to => mH c a to r + bS c r (lv + 1) (to + 1)) a i) g1 := by rw [← ms]; exact xe
            have this2 : mH c a x r + bS c r (lv + 1) (x + 1) ≤ mxr (fun to => mH c a to r + bS c r (lv + 1) (to + 1)) a i := this
            rcases hc with ⟨c1, c2, c3⟩ | ⟨c1, c2, c3⟩
            · omega
            · rw [c2] at hlt; omega
        · rw [hA3, st2_s, u1_s]
        · rcases hc with ⟨c1, c2, c3⟩ | ⟨c1, c2, c3⟩
          · rw [c2] at hge; omega
          · rw [c2, ms]; rw [c2] at hge; omega
        · rcases hc with ⟨c1, c2, c3⟩ | ⟨c1, c2, y, ⟨y0, y1, y2, y3⟩, c4⟩
          · rw [c2] at hge; omega
          · rw [c2] at hge
            have em : mxr (fun to => mH c a to r + bS c r (lv + 1) (to + 1)) a (i + 1) = mxr (fun to => mH c a to r + bS c r (lv + 1) (to + 1)) a i := by rw [ms]; omega
            exact ⟨y, ⟨y0, by omega, by rw [em]; exact y2, fun x x0 x1 => by rw [em]; exact y3 x x0 x1⟩, c4⟩
      · have : ¬ a + 1 + (i : Int) + (lv + 1 : Nat) ≤ 100 := fun z => by
          unfold bsR at hin
          rw [if_pos z] at hin
          have := (T.bS0 r (lv + 1) (a + 1 + i)).1
          omega
        omega
  have l106 : ∀ (lv : Nat), lv + 2 ≤ m → (∀ A1, (∀ z, z ≠ 414 → z ≠ 415 → A1 z = A0 z) → DpI c r (lv + 2) A1 → ∀ x4 w5 w6 w7 w8, G X (k + 1) m_X11_mostHits Q 98 [vA 373, vI m, vI r, vI (((lv + 2 : Nat) : Int) + 1), vI x4, w5, w6, w7, w8] [] F A1 R) → ∀ (g : Nat) (a : Int) (A1 : Fn2) (w5 w6 w7 w8 : Vv), 1 ≤ a → a + g = 101 → (∀ z, z ≠ 414 → z ≠ 415 → A1 z = A0 z) → DpI c r (lv + 1) A1 → (∀ x : Int, 1 ≤ x → x < a → A1 414 (101 * (((lv + 2 : Nat) : Int) - 1) + x) = bsR c r (lv + 2) x ∧ A1 415 (101 * (((lv + 2 : Nat) : Int) - 1) + x) = nxR c r (lv + 2) x) → G X (k + 1) m_X11_mostHits Q 106 [vA 373, vI m, vI r, vI (lv + 2 : Nat), vI a, w5, w6, w7, w8] [] F A1 R := by
    intro lv hlv cont g
    induction g with
    | zero =>
      intro a A1 w5 w6 w7 w8 a0 ag h1 hD hx
      refine b_X11_mostHits_106 hR ⟨fun _ => ⟨by omega, cont A1 h1 (fun j j1 j2 x x0 x1 => ?_) _ _ _ _ _⟩, fun h => absurd (show (100 : Int) < a by omega) h⟩
      by_cases e : j = lv + 2
      · subst e; exact hx x x0 (by omega)
      · exact hD j j1 (by omega) x x0 x1
    | succ g ih =>
      intro a A1 w5 w6 w7 w8 a0 ag h1 hD hx
      refine b_X11_mostHits_106 hR ⟨fun h => absurd h (by omega), fun _ => ⟨by omega, by omega, by omega, fun g1 hg1 => ⟨by omega, by omega, fun A2 hA2 A3 hA3 => ?_⟩⟩⟩
      subst hg1
      have h3 : ∀ z, z ≠ 414 → z ≠ 415 → A3 z = A0 z := fun z z0 z1 => by rw [hA3, st2_n z1, hA2, st2_n z0]; exact h1 z z0 z1
      have b3 := (frw A3 h3).2.2
      refine x_shorter (k := k) hR b3 (b_X11_mostHits_147 ⟨by omega, fun g1 hg1 => ?_⟩)
      subst hg1
      rw [(FRm.x9 (frw A3 h3).1).2]
      have := l155 lv hlv a a0 (by omega) (fun A4 h4 hD4 hx4 x5 x6 x7 w => ih (a + 1) A4 _ _ _ _ (by omega) (by omega) h4 hD4 (fun x x0 x1 => hx4 x x0 (by omega))) (max 100 (a + 1) - (a + 1)).toNat 0 A3 w8 (by omega) h3 (fun j j1 j2 x x0 x1 => ?_) (fun x x0 x1 => ?_) (Or.inl ⟨Nat.zero_min _, ?_, ?_⟩)
      · rw [show a + 1 + ((0 : Nat) : Int) = a + 1 by omega] at this
        exact this
      · rw [hA3, st2_n (by decide), hA2, st2_s, u1_n (by omega), st2_s, u1_n (by omega), st2_n (by decide)]; exact hD j j1 j2 x x0 x1
      · rw [hA3, st2_n (by decide), hA2, st2_s, u1_n (by omega), st2_s, u1_n (by omega), st2_n (by decide)]; exact hx x x0 x1
      · rw [hA3, st2_n (by decide), hA2, st2_s, u1_s]
      · rw [hA3, st2_s, u1_s]
  have l98 : ∀ (g lv : Nat) (A1 : Fn2) (w4 w5 w6 w7 w8 : Vv), 1 ≤ lv → lv + g = m → (∀ z, z ≠ 414 → z ≠ 415 → A1 z = A0 z) → DpI c r lv A1 → G X (k + 1) m_X11_mostHits Q 98 [vA 373, vI m, vI r, vI (lv + 1 : Nat), w4, w5, w6, w7, w8] [] F A1 R := by
    intro g
    induction g with
    | zero =>
      intro lv A1 w4 w5 w6 w7 w8 l1 hl h1 hD
      have e : lv = m := by omega
      subst e
      refine b_X11_mostHits_98 hR ⟨fun _ => ⟨by omega, by omega, by omega, by omega, by omega, ?_⟩, fun h => absurd (show (lv : Int) < ((lv + 1 : Nat) : Int) by omega) h⟩
      have e1 := (hD lv l1 (Nat.le_refl _) 1 (by decide) (by decide)).1
      rw [e1]
      unfold bsR
      rw [if_pos (by omega)]
      exact hq A1 (frw A1 h1).1 (frw A1 h1).2.1 hD
    | succ g ih =>
      intro lv A1 w4 w5 w6 w7 w8 l1 hl h1 hD
      obtain ⟨j, rfl⟩ : ∃ j, lv = j + 1 := ⟨lv - 1, by omega⟩
      refine b_X11_mostHits_98 hR ⟨fun h => absurd h (by omega), fun _ => ?_⟩
      exact l106 j (by omega) (fun A2 h2 hD2 x4 v5 v6 v7 v8 => ih (j + 2) A2 _ _ _ _ _ (by omega) (by omega) h2 hD2) 100 1 A1 _ _ _ _ (Int.le_refl 1) rfl h1 hD (fun x x0 x1 => by omega)
  have l44 : ∀ (g : Nat) (a : Int) (A1 : Fn2) (w4 : Vv), 1 ≤ a → a + g = 101 → (∀ z, z ≠ 414 → z ≠ 415 → A1 z = A0 z) → (∀ x : Int, 1 ≤ x → x < a → A1 414 x = mH c x 99 r ∧ A1 415 x = 100) → G X (k + 1) m_X11_mostHits Q 44 [vA 373, vI m, vI r, vI a, w4, vN, vN, vN, vN] [] F A1 R := by
    intro g
    induction g with
    | zero =>
      intro a A1 w4 a0 ag h1 hx
      refine b_X11_mostHits_44 hR ⟨fun _ A2 hA2 => ?_, fun h => absurd (show (100 : Int) < a by omega) h⟩
      refine l98 (m - 1) 1 A2 _ _ _ _ _ (Nat.le_refl 1) (by omega) (fun z z0 z1 => by rw [hA2, st2_n z0]; exact h1 z z0 z1) (fun j j1 j2 x x0 x1 => ?_)
      have ej : j = 1 := by omega
      subst ej
      rw [show (101 : Int) * (((1 : Nat) : Int) - 1) + x = x by omega]
      have := hx x x0 (by omega)
      unfold bsR nxR
      rw [hA2, st2_s, st2_n (by decide)]
      by_cases e : x = 100
      · subst e
        rw [u1_s, if_neg (by decide), if_neg (by decide)]
        exact ⟨rfl, this.2⟩
      · rw [u1_n e, if_pos (by omega), if_pos (by omega)]
        exact ⟨this.1, this.2⟩
    | succ g ih =>
      intro a A1 w4 a0 ag h1 hx
      obtain ⟨fr, rw1, bt1⟩ := frw A1 h1
      have sb := (shX_p bt1.2.2.1 a).1
      refine b_X11_mostHits_44 hR ⟨fun h => absurd h (by omega), fun _ => ?_⟩
      refine x_shorter (k := k) hR bt1 (b_X11_mostHits_66 hR (show Y1.1 414 = 0 by decide +kernel) (show Y1.2.1 414 = 505 by decide +kernel) (show Y1.1 412 = 0 by decide +kernel) (show Y1.2.1 412 = 3782 by decide +kernel) ?_)
      rw [bt.2.1]
      have ev := (rw1.mt bt1 r0 (x := a) (y := 99) (by omega)).1
      rw [sh100 bt1] at ev
      rw [ev]
      refine ⟨by omega, by omega, by omega, by omega, by omega, by omega, fun A2 hA2 => ⟨by omega, by omega, fun A3 hA3 => ⟨by omega, ih (a + 1) A3 _ (by omega) (by omega) (fun z z0 z1 => by rw [hA3, st2_n z1, hA2, st2_n z0]; exact h1 z z0 z1) (fun x x0 x1 => ?_)⟩⟩⟩
      rw [hA3, st2_n (by decide), hA2, st2_s, st2_s, st2_n (by decide)]
      by_cases e : x = a
      · subst e; rw [u1_s, u1_s]; exact ⟨rfl, rfl⟩
      · rw [u1_n e, u1_n e]; exact hx x x0 (by omega)
  exact l44 100 1 A0 w40 (Int.le_refl 1) rfl (fun _ _ _ => rfl) (fun x x0 x1 => by omega)
