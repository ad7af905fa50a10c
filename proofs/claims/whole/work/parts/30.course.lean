/-! COURSES OF THE CLASS -/
def flr (n v : Int) (f : Int → Int) : Int → Int := fun j => if 0 ≤ j ∧ j < n then v else f j
theorem flr_0 {n v : Int} {f : Int → Int} (h : n ≤ 0) : flr n v f = f := by
  funext j; unfold flr; rw [if_neg (by omega)]
theorem flr_s {n v : Int} {f : Int → Int} (h : 0 ≤ n) : u1 (flr n v f) n v = flr (n + 1) v f := by
  funext j; unfold u1 flr
  by_cases e : j = n
  · subst e; rw [if_pos rfl, if_pos (by omega)]
  · rw [if_neg e]
    by_cases h2 : 0 ≤ j ∧ j < n
    · rw [if_pos h2, if_pos (by omega)]
    · rw [if_neg h2, if_neg (by omega)]
theorem flr_i {n v j : Int} {f : Int → Int} (h : 0 ≤ j) (h2 : j < n) : flr n v f j = v := if_pos ⟨h, h2⟩
theorem j_fillL {X : Int × (Int → Int)} {k : Nat} {Q : Vv → Fn2 → Fn2 → Fn2 → Prop} {R : Fn2} {a v : Int} (ha : Y1.1 a = 0) : ∀ (m : Nat) (i : Int) (F A : Fn2), 0 ≤ i → i + m = Y1.2.1 a → Y1.2.1 a ≤ 10008 → Q vN F (up2 A a (flr (Y1.2.1 a) v (A a))) R → G X k m_J7_fill_53178 Q 5 [vA a, vI v, vI i, vI (Y1.2.1 a)] [] F (up2 A a (flr i v (A a))) R
  | 0, i, F, A, hi, hm, hl, hq => by
    have e : i = Y1.2.1 a := by omega
    rw [e]
    exact Blk.run (En_mono _) (e := 10) [(2, 2, 0, 0, 0, []), (2, 3, 0, 0, 0, []), (64, 3, 20, 0, 0, [])] 5 (by decide +kernel) (⟨fun z => Blk.run (En_mono _) (e := 21) [(74, 0, 0, 0, 0, [])] 20 (by decide +kernel) (⟨(Nat.le_add_right _ _), (Nat.le_add_right _ _), retY (zc_all _ (by decide) (by decide +kernel)), hq⟩), fun z => absurd (show ¬ Y1.2.1 a < Y1.2.1 a from Int.lt_irrefl _) z⟩)
  | m + 1, i, F, A, hi, hm, hl, hq => by
    have e : i < Y1.2.1 a := by omega
    refine Blk.run (En_mono _) (e := 10) [(2, 2, 0, 0, 0, []), (2, 3, 0, 0, 0, []), (64, 3, 20, 0, 0, [])] 5 (by decide +kernel) (⟨fun z => absurd e z, fun z => Blk.run (En_mono _) (e := 20) [(2, 0, 2, 0, 0, []), (2, 2, 0, 0, 0, []), (2, 1, 0, 0, 0, []), (53, 0, 0, 0, 0, []), (5, 2, 0, 0, 1, []), (62, 0, 5, 0, 0, [])] 10 (by decide +kernel) (⟨ha, hi, e, ⟨⟨by omega, by omega⟩, ?_⟩⟩)⟩)
    have := j_fillL (X := X) (k := k) (Q := Q) (R := R) ha m (i + 1) F A (by omega) (by omega) hl hq
    rw [show st2 (up2 A a (flr i v (A a))) a i v = up2 A a (flr (i + 1) v (A a)) by rw [up2_st2, flr_s hi]]
    exact this
theorem j_fill {X : Int × (Int → Int)} {k : Nat} {Q : Vv → Fn2 → Fn2 → Fn2 → Prop} {F A R : Fn2} {a v n : Int} (ha : Y1.1 a = 0) (hn : Y1.2.1 a = n) (h0 : 0 ≤ n) (h1 : n ≤ 10008) (hq : Q vN F (up2 A a (flr n v (A a))) R) : Wp X (k + 1) m_J7_fill_53178 [vA a, vI v] F A R Q := by
  subst hn
  refine Wp.of [vA a, vI v, vN, vN] rfl rfl rfl ?_
  refine Blk.run (En_mono _) (e := 5) [(0, 0, 0, 0, 0, []), (3, 2, 0, 0, 0, []), (2, 0, 2, 0, 0, []), (46, 0, 0, 0, 0, []), (3, 3, 0, 0, 0, [])] 0 (by decide +kernel) (⟨llt rfl, ⟨ha, ⟨llt rfl, ?_⟩⟩⟩)
  have := j_fillL (X := X) (k := k) (Q := Q) (R := R) (v := v) ha (Y1.2.1 a).toNat 0 F A (by omega) (by omega) h1 hq
  rw [flr_0 (by omega), up2_id] at this
  exact this
theorem cpy_i {f g : Int → Int} {sp dp n j : Int} (h : dp ≤ j) (h2 : j < dp + n) : cpy f g sp dp n j = f (sp + (j - dp)) := if_pos ⟨h, h2⟩
theorem cpy_o {f g : Int → Int} {sp dp n j : Int} (h : j < dp ∨ dp + n ≤ j) : cpy f g sp dp n j = g j := if_neg (by omega)
/-- a flow as it begins: what stands then -/
def FB (o q l cw : Int) (P F A R F' A' R' : Fn2) : Prop :=
  R' = st2 (st2 R o 0 q) o 1 l ∧ (∃ s, FS o s F' A' ∧ SEq True True P s (zeroS (P 5)) ∧ Iv P 0 0 0 0 0 s ∧ (∀ r, 0 ≤ r → r < 8 → s 3 r = 0 ∧ s 2 r = P 5 r)) ∧ F' o 2 = cw ∧ F' o 12 = 1 ∧ F' o 13 = -1 ∧ F' o 14 = 0 ∧
  (∀ a, ¬ (o + 18 ≤ a ∧ a ≤ o + 21) → A' a = A a) ∧ ∀ x f, x ≠ o → F' x f = F x f
theorem w_begin {X : Int × (Int → Int)} {k : Nat} {Q : Vv → Fn2 → Fn2 → Fn2 → Prop} {F A R : Fn2} {o q l cw : Int} {P : Fn2} (hR : RS R) (ho : At_Flow o) (hq0 : At_Spring q) (hl : At_Laws l) (hP : WFP P) (h5 : A (q + 5) = P 5) (hq : ∀ F' A' R', FB o q l cw P F A R F' A' R' → RS R' → Q vN F' A' R') : Wp X (k + 2) m_X2_begin [vA o, vA q, vA l, vI cw] F A R Q := by
  have d := dj_SF hq0 ho
  refine Wp.of [vA o, vA q, vA l, vI cw] rfl rfl rfl (b_X2_begin_0 hR ho hq0 hl fun R1 hR1 hR1s R2 hR2 hR2s F3 hF3 => ?_)
  refine j_fill (k := k) (la_Flow_3 ho) (ln_Flow_3 ho) (by omega) (by omega) (b_X2_begin_23 hR2s ho hq0 hl ?_)
  refine j_fill (k := k) (la_Flow_4 ho) (ln_Flow_4 ho) (by omega) (by omega) (b_X2_begin_31 hR2s ho hq0 hl ?_)
  refine j_fill (k := k) (la_Flow_6 ho) (ln_Flow_6 ho) (by omega) (by omega) (b_X2_begin_39 hR2s ho hq0 hl ?_)
  intro A1 hA1 F2 h2 F3' h3 F4 h4 F5 h5' F6 h6 F7 h7 F8 h8
  have e18 : A1 (o + 18) = flr 8 0 (A (o + 18)) := by
    rw [hA1, up2_n (by omega), up2_n (by omega), up2_n (by omega), up2_s]
  have e19 : A1 (o + 19) = flr 8 0 (A (o + 19)) := by
    rw [hA1, up2_n (by omega), up2_n (by omega), up2_s, up2_n (by omega)]
  have e21 : A1 (o + 21) = flr 8 0 (A (o + 21)) := by
    rw [hA1, up2_n (by omega), up2_s, up2_n (by omega), up2_n (by omega)]
  have e20 : A1 (o + 20) = cpy (P 5) (A (o + 20)) 0 0 8 := by
    rw [hA1, up2_s]
    rw [up2_n (a := o + 21) (b := q + 5) (by omega), up2_n (a := o + 19) (b := q + 5) (by omega), up2_n (a := o + 18) (b := q + 5) (by omega), h5]
    rw [up2_n (a := o + 21) (by omega), up2_n (a := o + 19) (by omega), up2_n (a := o + 18) (by omega)]
  refine hq F8 A1 R2 ⟨by rw [hR2, hR1], ⟨fun i => if i = 0 then A1 (o + 18) else if i = 1 then A1 (o + 19) else if i = 2 then A1 (o + 20) else if i = 3 then A1 (o + 21) else fun _ => 0, ?_, ?_, ?_, ?_⟩, ?_, ?_, ?_, ?_, ?_, ?_⟩ hR2s
  · refine ⟨rfl, rfl, rfl, rfl, ?_, ?_, ?_, ?_⟩ <;> subst h8 h7 h6 h5' h4 h3 h2 hF3 <;> simp [st2_s, u1]
  · refine ⟨fun r a b => ?_, fun r a b => ?_, fun _ => rfl, fun _ => ⟨rfl, rfl, rfl⟩⟩
    · simp only [e18, e19, zeroS]
      refine ⟨?_, ?_⟩ <;> simp [flr_i a b]
    · have := hP.1
      simp [e20, zeroS, cpy_i (dp := 0) (sp := 0) (n := 8) a (show r < 0 + 8 by omega)]
  · refine ⟨⟨fun r a b => ?_, fun r a b => ?_⟩, ?_, ?_⟩
    · simp only [e18, e19]
      refine ⟨by simp [flr_i a b], by simp [flr_i a b], fun h => ?_, fun h => by simp [flr_i a b]⟩
      have := hP.2.1 r a h
      simp [flr_i a b]; omega
    · have h8' := hP.1
      have := hP.2.1 r a b
      have b8 : r < 8 := by omega
      simp [e20, e21, cpy_i (dp := 0) (sp := 0) (n := 8) a (show r < 0 + 8 by omega), flr_i a b8]
      omega
    · have e : pot (fun i => if i = 0 then A1 (o + 18) else if i = 1 then A1 (o + 19) else if i = 2 then A1 (o + 20) else if i = 3 then A1 (o + 21) else fun _ => 0) = 0 := by
        unfold pot
        simp [sm, pp, e18, e19, flr]
      rw [e]; exact Int.le_refl 0
    · simp [Bk]
  · intro r a b
    simp [e20, e21, cpy_i (dp := 0) (sp := 0) (n := 8) a (show r < 0 + 8 by omega), flr_i a b]
  · subst h8 h7 h6 h5' h4 h3 h2 hF3; simp [st2_s, u1]
  · subst h8 h7 h6 h5' h4 h3 h2 hF3; simp [st2_s, u1]
  · subst h8 h7 h6 h5' h4 h3 h2 hF3; simp [st2_s, u1]
  · subst h8 h7 h6 h5' h4 h3 h2 hF3; simp [st2_s, u1]
  · intro a ha
    rw [hA1, up2_n (by omega), up2_n (by omega), up2_n (by omega), up2_n (by omega)]
  · intro x f hx
    subst h8 h7 h6 h5' h4 h3 h2 hF3
    simp [st2_n hx]
/-- what a course has kept of its second t -/
def KeptA (o : Int) (A z : Fn2) (t : Int) : Prop := (∀ r, 0 ≤ r → r < 8 → A (o + 40) (t * 8 + r) = z 0 r ∧ A (o + 41) (t * 8 + r) = z 1 r) ∧ A (o + 42) t = z 9 15 ∧ A (o + 43) t = z 9 16 ∧ A (o + 44) t = z 9 17 ∧ A (o + 45) t = z 9 18
theorem w_keep {X : Int × (Int → Int)} {k : Nat} {Q : Vv → Fn2 → Fn2 → Fn2 → Prop} {F A R : Fn2} {o t : Int} {s : Fn2} (hR : RS R) (ho : At_Course o) (h0 : 0 ≤ t) (h1 : t ≤ 1000) (hs : FS (o + 13) s F A) (hq : ∀ F' A', KeptA o A' s t → (∀ z u, 0 ≤ u → u ≠ t → KeptA o A z u → KeptA o A' z u) → (∀ a, ¬ (o + 40 ≤ a ∧ a ≤ o + 45) → A' a = A a) → F' = st2 F o 8 t → Q vN F' A' R) : Wp X (k + 1) m_X1_keep [vA o, vI t] F A R Q := by
  refine Wp.of [vA o, vI t] rfl rfl rfl (b_X1_keep_0 hR ho ⟨by omega, by omega, by omega, fun A1 hA1 A2 hA2 => ⟨h0, by omega, fun A3 hA3 A4 hA4 A5 hA5 A6 hA6 F7 hF7 => ?_⟩⟩)
  obtain ⟨e0, e1, e2, e3, f5, f6, f7, f8⟩ := hs
  have q40 : A6 (o + 40) = cpy (s 0) (A (o + 40)) 0 (t * 8) 8 := by
    rw [hA6, st2_n (by omega), hA5, st2_n (by omega), hA4, st2_n (by omega), hA3, st2_n (by omega), hA2, up2_n (by omega), hA1, up2_s, e0]
  have q41 : A6 (o + 41) = cpy (s 1) (A (o + 41)) 0 (t * 8) 8 := by
    rw [hA6, st2_n (by omega), hA5, st2_n (by omega), hA4, st2_n (by omega), hA3, st2_n (by omega), hA2, up2_s, hA1, up2_n (by omega), up2_n (by omega), e1]
  have q42 : A6 (o + 42) = u1 (A (o + 42)) t (s 9 15) := by
    rw [hA6, st2_n (by omega), hA5, st2_n (by omega), hA4, st2_n (by omega), hA3, st2_s, hA2, up2_n (by omega), hA1, up2_n (by omega), f5]
  have q43 : A6 (o + 43) = u1 (A (o + 43)) t (s 9 16) := by
    rw [hA6, st2_n (by omega), hA5, st2_n (by omega), hA4, st2_s, hA3, st2_n (by omega), hA2, up2_n (by omega), hA1, up2_n (by omega), f6]
  have q44 : A6 (o + 44) = u1 (A (o + 44)) t (s 9 17) := by
    rw [hA6, st2_n (by omega), hA5, st2_s, hA4, st2_n (by omega), hA3, st2_n (by omega), hA2, up2_n (by omega), hA1, up2_n (by omega), f7]
  have q45 : A6 (o + 45) = u1 (A (o + 45)) t (s 9 18) := by
    rw [hA6, st2_s, hA5, st2_n (by omega), hA4, st2_n (by omega), hA3, st2_n (by omega), hA2, up2_n (by omega), hA1, up2_n (by omega), f8]
  refine hq F7 A6 ⟨fun r a b => ?_, ?_, ?_, ?_, ?_⟩ (fun z u hu0 hu hk => ?_) (fun a ha => ?_) hF7
  · rw [q40, q41, cpy_i (by omega) (by omega), cpy_i (by omega) (by omega), show 0 + (t * 8 + r - t * 8) = r by omega]
    exact ⟨rfl, rfl⟩
  · rw [q42, u1_s]
  · rw [q43, u1_s]
  · rw [q44, u1_s]
  · rw [q45, u1_s]
  · obtain ⟨k1, k2, k3, k4, k5⟩ := hk
    refine ⟨fun r a b => ?_, ?_, ?_, ?_, ?_⟩
    · rw [q40, q41, cpy_o (by omega), cpy_o (by omega)]
      exact k1 r a b
    · rw [q42, u1_n hu]; exact k2
    · rw [q43, u1_n hu]; exact k3
    · rw [q44, u1_n hu]; exact k4
    · rw [q45, u1_n hu]; exact k5
  · rw [hA6, st2_n (by omega), hA5, st2_n (by omega), hA4, st2_n (by omega), hA3, st2_n (by omega), hA2, up2_n (by omega), hA1, up2_n (by omega)]
/-- the seconds of a course -/
def rnS (P : Fn2) (C : Nat → Option (List Int)) (cw : Int) (n : Nat) : Fn2 := runS P (LwF C) cw 1 (-1) 0 (P 5) n
/-- what a course with spring q keeps, as far as it has gone -/
def CrsI (o q l cw : Int) (P : Fn2) (C : Nat → Option (List Int)) (F A R : Fn2) : Prop :=
  F o 8 = -1 ∨ ∃ u : Nat, F o 8 = u ∧ (u : Int) ≤ 1000 ∧ R (o + 13) 0 = q ∧ R (o + 13) 1 = l ∧ F (o + 13) 2 = cw ∧ F (o + 13) 12 = 1 ∧ F (o + 13) 13 = -1 ∧ F (o + 13) 14 = 0 ∧ (∃ s, FS (o + 13) s F A ∧ SEq True True P s (rnS P C cw u) ∧ Iv P (19512 * u) 1920 (240 * u) (2712 * u) (792 * u) s) ∧ ∀ t : Nat, t ≤ u → KeptA o A (rnS P C cw t) t
/-- only what going on may change has changed -/
def CX (o l : Int) (F A R F' A' R' : Fn2) : Prop := (∀ a, ¬ (o + 31 ≤ a ∧ a ≤ o + 45) → a ≠ l + 4 → A' a = A a) ∧ (∀ x f, x ≠ o + 13 → x ≠ o ∨ f ≠ 8 → F' x f = F x f) ∧ (∀ x f, x ≠ o + 13 ∨ f ≠ 0 ∧ f ≠ 1 → R' x f = R x f) ∧ RS R'
theorem CX.refl {o l : Int} {F A R : Fn2} (hR : RS R) : CX o l F A R F A R := ⟨fun _ _ _ => rfl, fun _ _ _ _ => rfl, fun _ _ _ => rfl, hR⟩
theorem CX.trans {o l : Int} {F A R F1 A1 R1 F2 A2 R2 : Fn2} (h : CX o l F A R F1 A1 R1) (g : CX o l F1 A1 R1 F2 A2 R2) : CX o l F A R F2 A2 R2 :=
  ⟨fun a h1 h2 => (g.1 a h1 h2).trans (h.1 a h1 h2), fun x f h1 h2 => (g.2.1 x f h1 h2).trans (h.2.1 x f h1 h2), fun x f h1 => (g.2.2.1 x f h1).trans (h.2.2.1 x f h1), g.2.2.2⟩
theorem dj_SC {q o : Int} (hq : At_Spring q) (ho : At_Course o) : q ≠ o ∧ q ≠ o + 13 ∧ (q + 11 < o + 31 ∨ o + 45 < q) := by
  unfold At_Spring at hq; unfold At_Course at ho
  rcases ho with h | h | h | h <;> subst h <;> omega
theorem dj_LC {l o : Int} (hl : At_Laws l) (ho : At_Course o) : l ≠ o ∧ l ≠ o + 13 ∧ (l + 4 < o + 31 ∨ o + 45 < l) := by
  unfold At_Laws at hl; unfold At_Course at ho
  rcases ho with h | h | h | h <;> subst h <;> omega
/-- the springs and laws that stand -/
def Std (q l : Int) (P : Fn2) (C : Nat → Option (List Int)) (F A : Fn2) : Prop := At_Spring q ∧ At_Laws l ∧ SpR q P F A ∧ CLw l A C
theorem Std.cx {o q l : Int} {P F A R F' A' R' : Fn2} {C : Nat → Option (List Int)} (h : Std q l P C F A) (ho : At_Course o) (x : CX o l F A R F' A' R') : Std q l P C F' A' := by
  obtain ⟨a1, a2, ⟨a3, a4, a5⟩, a6⟩ := h
  have d1 := dj_SC a1 ho
  have d2 := dj_LC a2 ho
  have d3 := dj_SL a1 a2
  refine ⟨a1, a2, ⟨fun i h1 h2 => ?_, ?_, ?_⟩, a6.of ?_ ?_ ?_⟩
  · rw [x.1 _ (by omega) (by omega)]; exact a3 i h1 h2
  · rw [x.2.1 _ _ d1.2.1 (Or.inl d1.1)]; exact a4
  · rw [x.2.1 _ _ d1.2.1 (Or.inl d1.1)]; exact a5
  · exact x.1 _ (by omega) (by omega)
  · exact x.1 _ (by omega) (by omega)
  · exact x.1 _ (by omega) (by omega)
theorem w_goOnL {X : Int × (Int → Int)} {k : Nat} {Q : Vv → Fn2 → Fn2 → Fn2 → Prop} {o q l cw n : Int} {P : Fn2} {C : Nat → Option (List Int)} (ho : At_Course o) (hP : WFP P) (hc0 : 0 ≤ cw) (hc1 : cw ≤ 99) (hn : n ≤ 1000) : ∀ (m : Nat) (u : Nat) (F A R : Fn2), RS R → Std q l P C F A → R o 0 = q → F o 8 = u → CrsI o q l cw P C F A R → n ≤ u + m → (∀ F' A' R', CrsI o q l cw P C F' A' R' → n ≤ F' o 8 → (u : Int) ≤ F' o 8 → CX o l F A R F' A' R' → Q vN F' A' R') → G X (k + 6) m_X1_goOn Q 34 [vA o, vA l, vI cw, vI n, vI ((u : Int) + 1)] [] F A R := by
  intro m
  induction m with
  | zero =>
    intro u F A R hR hS hq0 h8 hI hm hq
    refine b_X1_goOn_34 hR ho hS.2.1 ⟨fun _ => hq F A R hI (by omega) (by omega) (CX.refl hR), fun hx => by omega⟩
  | succ m ih =>
    intro u F A R hR hS hq0 h8 hI hm hq
    refine b_X1_goOn_34 hR ho hS.2.1 ⟨fun hx => hq F A R hI (by omega) (by omega) (CX.refl hR), fun hx => ⟨fun hx2 => by omega, fun hx2 => ?_⟩⟩
    have hof : At_Flow (o + 13) := at_Course_1 ho
    rcases hI with hI | ⟨u', hu', hu1, r0, r1, g2, g12, g13, g14, ⟨s, hs, hsq, hiv⟩, hk⟩
    · omega
    have : u' = u := by omega
    subst this
    have hE : FE (o + 13) q l P C F A R := ⟨r0, hS.1, r1, hS.2.1, hS.2.2.1, hS.2.2.2⟩
    refine c_pass (k := k + 1) (cw := cw) (jn := 1) (lr := -1) (lg := 0) hR hof hP hiv (by omega) (by omega) (by omega) (by omega) (by omega) hE hs g2 hc0 hc1 g12 g13 g14 (by omega) fun F1 A1 y1 y2 => ?_
    have hiv1 := iv_tick (jn := 1) (lr := -1) (lg := 0) (L := LwF C) hiv hP LwF_ok hc0 hc1 (by omega)
    have hsq1 := tick_cong (L := LwF C) (cw := cw) (jn := 1) (lr := -1) (lg := 0) hP PEq.refl hsq
    refine b_X1_goOn_55 ho hS.2.1 ?_
    refine w_keep (k := k + 5) hR ho (by omega) (by omega) y1 fun F2 A2 z1 z2 z3 z4 => ?_
    refine b_X1_goOn_61 ho hS.2.1 ⟨by omega, ?_⟩
    have x2 : CX o l F A R F2 A2 R := by
      refine ⟨fun a h1 h2 => ?_, fun x f h1 h2 => ?_, fun _ _ _ => rfl, hR⟩
      · rw [z3 a (by omega), y2.1 a (by omega) h2]
      · rw [z4]
        by_cases e : x = o
        · subst e; rw [st2_s, u1_n (by omega), y2.2 x f (by omega)]
        · rw [st2_n e, y2.2 x f (by omega)]
    have ne : o + 13 ≠ o := by omega
    have hI2 : CrsI o q l cw P C F2 A2 R := by
      refine Or.inr ⟨u' + 1, ?_, by omega, r0, r1, ?_, ?_, ?_, ?_, ⟨_, ?_, hsq1, ?_⟩, fun t ht => ?_⟩
      · rw [z4, st2_s, u1_s]; omega
      · rw [z4, st2_n ne, y2.2 _ _ (by omega)]; exact g2
      · rw [z4, st2_n ne, y2.2 _ _ (by omega)]; exact g12
      · rw [z4, st2_n ne, y2.2 _ _ (by omega)]; exact g13
      · rw [z4, st2_n ne, y2.2 _ _ (by omega)]; exact g14
      · obtain ⟨e0, e1, e2, e3, f5, f6, f7, f8⟩ := y1
        refine ⟨?_, ?_, ?_, ?_, ?_, ?_, ?_, ?_⟩
        · rw [z3 _ (by omega)]; exact e0
        · rw [z3 _ (by omega)]; exact e1
        · rw [z3 _ (by omega)]; exact e2
        · rw [z3 _ (by omega)]; exact e3
        · rw [z4, st2_n ne]; exact f5
        · rw [z4, st2_n ne]; exact f6
        · rw [z4, st2_n ne]; exact f7
        · rw [z4, st2_n ne]; exact f8
      · exact hiv1.mono (by omega) (by omega) (by omega) (by omega) (by omega)
      · by_cases e : t = u' + 1
        · subst e
          obtain ⟨k1, k2, k3, k4, k5⟩ := z1
          have ht' : ((u' + 1 : Nat) : Int) = (u' : Int) + 1 := by omega
          obtain ⟨q1, q2, q3', q4'⟩ := hsq1
          have q3 := q3' trivial
          obtain ⟨q4, q5, q6⟩ := q4' trivial
          rw [ht']
          refine ⟨fun r a b => ?_, ?_, ?_, ?_, ?_⟩
          · have h1 := k1 r a b
            have h2 := q1 r a b
            exact ⟨h1.1.trans h2.1, h1.2.trans h2.2⟩
          · exact k2.trans q3
          · exact k3.trans q4
          · exact k4.trans q5
          · exact k5.trans q6
        · refine z2 _ _ (by omega) (by omega) ?_
          obtain ⟨k1, k2, k3, k4, k5⟩ := hk t (by omega)
          have d2 := dj_LC hS.2.1 ho
          refine ⟨fun r a b => ?_, ?_, ?_, ?_, ?_⟩
          · rw [y2.1 _ (by omega) (by omega), y2.1 _ (by omega) (by omega)]; exact k1 r a b
          · rw [y2.1 _ (by omega) (by omega)]; exact k2
          · rw [y2.1 _ (by omega) (by omega)]; exact k3
          · rw [y2.1 _ (by omega) (by omega)]; exact k4
          · rw [y2.1 _ (by omega) (by omega)]; exact k5
    have := ih (u' + 1) F2 A2 R hR (hS.cx ho x2) hq0 (by rw [z4, st2_s, u1_s]; omega) hI2 (by omega) (fun F' A' R' v1 v2 v3 v4 => hq F' A' R' v1 v2 (by omega) (x2.trans v4))
    exact this
theorem w_goOn {X : Int × (Int → Int)} {k : Nat} {Q : Vv → Fn2 → Fn2 → Fn2 → Prop} {F A R : Fn2} {o q l cw n : Int} {P : Fn2} {C : Nat → Option (List Int)} (hR : RS R) (ho : At_Course o) (hP : WFP P) (hc0 : 0 ≤ cw) (hc1 : cw ≤ 99) (hn0 : 0 ≤ n) (hn : n ≤ 1000) (hS : Std q l P C F A) (hq0 : R o 0 = q) (hI : CrsI o q l cw P C F A R) (hq : ∀ F' A' R', CrsI o q l cw P C F' A' R' → n ≤ F' o 8 → CX o l F A R F' A' R' → Q vN F' A' R') : Wp X (k + 7) m_X1_goOn [vA o, vA l, vI cw, vI n] F A R Q := by
  have hof : At_Flow (o + 13) := at_Course_1 ho
  -- from 26 on
  have fin : ∀ F1 A1 R1 (u : Nat), RS R1 → CX o l F A R F1 A1 R1 → CrsI o q l cw P C F1 A1 R1 → F1 o 8 = u → G X (k + 6) m_X1_goOn Q 26 [vA o, vA l, vI cw, vI n, vN] [] F1 A1 R1 := by
    intro F1 A1 R1 u hR1 x1 hI1 h8
    have hu1 : (u : Int) ≤ 1000 := by
      rcases hI1 with hI | ⟨u', hu', hu1, -⟩ <;> omega
    refine b_X1_goOn_26 ho hS.2.1 ?_
    rw [h8]
    refine ⟨by omega, fun g1 hg1 => ?_⟩
    subst hg1
    refine w_goOnL ho hP hc0 hc1 hn n.toNat u F1 A1 R1 hR1 (hS.cx ho x1) ?_ h8 hI1 (by omega) fun F' A' R' v1 v2 v3 v4 => hq F' A' R' v1 v2 (x1.trans v4)
    rw [x1.2.2.1 _ _ (by omega)]; exact hq0
  refine Wp.of [vA o, vA l, vI cw, vI n, vN] rfl rfl rfl (b_X1_goOn_0 hR ho hS.2.1 hq0 hS.1 ⟨fun hne => ?_, fun he => ?_⟩)
  · rcases hI with h | ⟨u, hu, hr⟩
    · exact absurd h hne
    · exact fin F A R u hR (CX.refl hR) (Or.inr ⟨u, hu, hr⟩) hu
  · refine w_begin (k := k + 4) (cw := cw) hR hof hS.1 hS.2.1 hP (hS.2.2.1.1 5 (by omega) (by omega)) fun F1 A1 R1 hB hR1 => ?_
    obtain ⟨b1, ⟨s, b2, b3, b4, b5⟩, c2, c12, c13, c14, b6, b7⟩ := hB
    refine b_X1_goOn_21 ho hS.2.1 (w_keep (k := k + 5) hR1 ho (by omega) (by omega) b2 fun F2 A2 z1 z2 z3 z4 => ?_)
    have ne : o + 13 ≠ o := by omega
    have x2 : CX o l F A R F2 A2 R1 := by
      refine ⟨fun a h1 h2 => ?_, fun x f h1 h2 => ?_, fun x f h1 => ?_, hR1⟩
      · rw [z3 a (by omega), b6 a (by omega)]
      · rw [z4]
        by_cases e : x = o
        · subst e; rw [st2_s, u1_n (by omega), b7 x f (by omega)]
        · rw [st2_n e, b7 x f h1]
      · rw [b1]
        by_cases e : x = o + 13
        · subst e; rw [st2_s, u1_n (by omega), st2_s, u1_n (by omega)]
        · rw [st2_n e, st2_n e]
    refine fin F2 A2 R1 0 hR1 x2 ?_ (by rw [z4, st2_s, u1_s]; rfl)
    have q0 : SEq True True P s (rnS P C cw 0) := b3
    refine Or.inr ⟨0, by rw [z4, st2_s, u1_s]; rfl, by omega, ?_, ?_, ?_, ?_, ?_, ?_, ⟨s, ?_, q0, ?_⟩, fun t ht => ?_⟩
    · rw [b1, st2_s, u1_n (by omega), st2_s, u1_s]
    · rw [b1, st2_s, u1_s]
    · rw [z4, st2_n ne]; exact c2
    · rw [z4, st2_n ne]; exact c12
    · rw [z4, st2_n ne]; exact c13
    · rw [z4, st2_n ne]; exact c14
    · obtain ⟨e0, e1, e2, e3, f5, f6, f7, f8⟩ := b2
      refine ⟨?_, ?_, ?_, ?_, ?_, ?_, ?_, ?_⟩
      · rw [z3 _ (by omega)]; exact e0
      · rw [z3 _ (by omega)]; exact e1
      · rw [z3 _ (by omega)]; exact e2
      · rw [z3 _ (by omega)]; exact e3
      · rw [z4, st2_n ne]; exact f5
      · rw [z4, st2_n ne]; exact f6
      · rw [z4, st2_n ne]; exact f7
      · rw [z4, st2_n ne]; exact f8
    · exact b4.mono (by omega) (by omega) (by omega) (by omega) (by omega)
    · have : t = 0 := by omega
      subst this
      obtain ⟨k1, k2, k3, k4, k5⟩ := z1
      obtain ⟨q1, q2, q3', q4'⟩ := q0
      have q3 := q3' trivial
      obtain ⟨q4, q5, q6⟩ := q4' trivial
      refine ⟨fun r a b => ?_, k2.trans q3, k3.trans q4, k4.trans q5, k5.trans q6⟩
      have h1 := k1 r a b
      have h2 := q1 r a b
      exact ⟨h1.1.trans h2.1, h1.2.trans h2.2⟩
