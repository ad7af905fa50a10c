/-! QUESTIONS OF THE CLASS: what all share -/
/-- board and shake stay -/
def KF (F A F' A' : Fn2) : Prop := (∀ f, F' 0 f = F 0 f) ∧ (∀ f, F' 71 f = F 71 f) ∧ ∀ a, 72 ≤ a → a ≤ 183 → A' a = A a
theorem KF.refl {F A : Fn2} : KF F A F A := ⟨fun _ => rfl, fun _ => rfl, fun _ _ _ => rfl⟩
theorem KF.trans {F A F1 A1 F2 A2 : Fn2} (h : KF F A F1 A1) (g : KF F1 A1 F2 A2) : KF F A F2 A2 :=
  ⟨fun f => (g.1 f).trans (h.1 f), fun f => (g.2.1 f).trans (h.2.1 f), fun a h1 h2 => (g.2.2 a h1 h2).trans (h.2.2 a h1 h2)⟩
def CQ (σ : Sg) (q : Int → Int) (l : Int) (F A R F' A' R' : Fn2) : Prop := CB σ q l F' A' R' ∧ CC σ q l F' A' R' ∧ QF F A R F' A' R' ∧ KF F A F' A'
theorem CQ.refl {σ : Sg} {q : Int → Int} {l : Int} {F A R : Fn2} (h : CB σ q l F A R) (h2 : CC σ q l F A R) : CQ σ q l F A R F A R := ⟨h, h2, QF.refl h.1, KF.refl⟩
theorem CQ.trans {σ : Sg} {q : Int → Int} {l : Int} {F A R F1 A1 R1 F2 A2 R2 : Fn2} (h : CQ σ q l F A R F1 A1 R1) (g : CQ σ q l F1 A1 R1 F2 A2 R2) : CQ σ q l F A R F2 A2 R2 := ⟨g.1, g.2.1, h.2.2.1.trans g.2.2.1, h.2.2.2.trans g.2.2.2⟩
theorem w_isShelf {X : Int × (Int → Int)} {k : Nat} {Q : Vv → Fn2 → Fn2 → Fn2 → Prop} {F A R : Fn2} {s : Int} (hq : 0 ≤ s → s < 4 → Q (vI 1) F A R) (hq' : ¬ (0 ≤ s ∧ s < 4) → Q (vI 0) F A R) : Wp X (k + 1) m_X10_isShelf [vI s] F A R Q :=
  Wp.of [vI s] rfl rfl rfl (b_X10_isShelf_0 ⟨fun h => hq' (by omega), fun h => ⟨fun h2 => hq' (by omega), fun h2 => hq (by omega) h2⟩⟩)
theorem w_isCourse {X : Int × (Int → Int)} {k : Nat} {Q : Vv → Fn2 → Fn2 → Fn2 → Prop} {F A R : Fn2} {n : Int} (hq : 1 ≤ n → n ≤ 1000 → Q (vI 1) F A R) (hq' : ¬ (1 ≤ n ∧ n ≤ 1000) → Q (vI 0) F A R) : Wp X (k + 1) m_X10_isCourse [vI n] F A R Q :=
  Wp.of [vI n] rfl rfl rfl (b_X10_isCourse_0 ⟨fun h => hq' (by omega), fun h => ⟨fun h2 => hq' (by omega), fun h2 => hq (by omega) (by omega)⟩⟩)
theorem b_isRoom_no {X : Int × (Int → Int)} {k : Nat} {Q : Vv → Fn2 → Fn2 → Fn2 → Prop} {F A R : Fn2} {x1 x2 : Int} (h : Q (vI 0) F A R) : G X k m_X10_isRoom Q 4 [vA 0, vI x1, vI x2] [vI 0] F A R :=
  Blk.run (En_mono _) (e := 7) [(63, 0, 31, 0, 0, [])] 4 (by decide +kernel) (⟨fun z4 => Blk.run (En_mono _) (e := 33) [(0, 0, 0, 0, 0, []), (73, 0, 0, 0, 1, [])] 31 (by decide +kernel) (⟨(by decide), (by decide), (Nat.le_add_right _ _), (Nat.le_add_right _ _), retY (zc_all _ (by decide) (by decide +kernel)), h⟩), fun z4 => absurd rfl z4⟩)
theorem w_isRoom {X : Int × (Int → Int)} {k : Nat} {Q : Vv → Fn2 → Fn2 → Fn2 → Prop} {F A R : Fn2} {σ : Sg} {q : Int → Int} {l s r : Int} (hB : CB σ q l F A R) (hq : ∀ i : Nat, i < 4 → s = i → 0 ≤ r → r < σ.2.1 i 0 0 → Q (vI 1) F A R) (hq' : ¬ (∃ i : Nat, i < 4 ∧ s = i ∧ 0 ≤ r ∧ r < σ.2.1 i 0 0) → Q (vI 0) F A R) : Wp X (k + 2) m_X10_isRoom [vA 0, vI s, vI r] F A R Q := by
  refine Wp.of [vA 0, vI s, vI r] rfl rfl rfl (b_X10_isRoom_0 (w_isShelf (k := k) (fun h0 h4 => ?_) (fun h => b_isRoom_no (hq' ?_))))
  · have hi : s.toNat < 4 := by omega
    have es : s = (s.toNat : Int) := by omega
    have h7 := hB.2.2.2.2.2.2.1 s.toNat hi
    have e0 : R (189 + 46 * s) 0 = q s.toNat := by rw [es]; exact h7.1
    refine b_X10_isRoom_4 hB.1 e0 (inQ_at (hB.2.1.1 _ (by omega) (by omega))) ⟨fun h => absurd h (by decide), fun _ => ⟨fun h => hq' ?_, fun h => ⟨h0, h4, ?_⟩⟩⟩
    · rintro ⟨i, _, _, h1, _⟩; omega
    · rw [h7.2.2.1]
      refine ⟨fun h2 => hq' ?_, fun h2 => hq s.toNat hi es (by omega) h2⟩
      rintro ⟨i, _, hs, _, h1⟩
      have : i = s.toNat := by omega
      subst this
      exact h2 h1
  · rintro ⟨i, h1, h2, _⟩; omega
/-- what second t of shelf i's course is -/
def zz (σ : Sg) (i : Nat) (t : Nat) : Fn2 := rnS (σ.2.1 i) σ.2.2 (σ.1 0 1) t
def th (σ : Sg) (i : Nat) (t : Nat) : Int := zz σ i t 9 15
theorem zz_iv {σ : Sg} (hS : SgI σ) {i : Nat} (hi : i < 4) (t : Nat) : Iv (σ.2.1 i) (19512 * t) 1920 (240 * t) (2712 * t) (792 * t) (zz σ i t) := by
  have hP := hS.2.2.2.2.2.2.1 i hi
  exact iv_run hP LwF_ok hS.2.1.1 hS.2.1.2 (by omega) (fun r a b => by have := hP.2.1 r a b; omega) t
theorem zz_w {σ : Sg} (hS : SgI σ) {i : Nat} (hi : i < 4) (t : Nat) {r : Int} (h0 : 0 ≤ r) (h8 : r < 8) : 0 ≤ zz σ i t 0 r ∧ zz σ i t 0 r ≤ 99 ∧ 0 ≤ zz σ i t 1 r := by
  have hP := hS.2.2.2.2.2.2.1 i hi
  obtain ⟨a1, a2, a3, a4⟩ := (zz_iv hS hi t).1.1 r h0 h8
  by_cases hr : r < σ.2.1 i 0 0
  · have := a3 hr
    have := (hP.2.1 r h0 hr).2.1
    omega
  · have := a4 (by omega)
    omega
theorem th_b {σ : Sg} (hS : SgI σ) {i : Nat} (hi : i < 4) (t : Nat) : 0 ≤ th σ i t ∧ th σ i t ≤ 1920 := by
  have h := (zz_iv hS hi t).2.2
  unfold Bk at h
  unfold th; omega
def Kn (σ : Sg) (i : Nat) (n : Int) (A : Fn2) : Prop := ∀ t : Nat, (t : Int) ≤ n → KeptA (crs i) A (zz σ i t) t
theorem CrsI.kn {σ : Sg} {q : Int → Int} {l n : Int} {i : Nat} {F A R : Fn2} (h : CrsI (crs i) (q i) l (σ.1 0 1) (σ.2.1 i) σ.2.2 F A R) (hn : n ≤ F (crs i) 8) (h0 : 0 ≤ n) : Kn σ i n A := by
  rcases h with h | ⟨u, u1, u2, u3, u4, u5, u6, u7, u8, u9, u10⟩
  · omega
  · intro t ht; exact u10 t (by omega)
theorem w_goOnC {X : Int × (Int → Int)} {k : Nat} {Q : Vv → Fn2 → Fn2 → Fn2 → Prop} {F A R : Fn2} {σ : Sg} {q : Int → Int} {l n : Int} {i : Nat} (hS : SgI σ) (hB : CB σ q l F A R) (hC : CC σ q l F A R) (hi : i < 4) (h0 : 0 ≤ n) (hn : n ≤ 1000) (hq : ∀ F' A' R', CQ σ q l F A R F' A' R' → Kn σ i n A' → Q vN F' A' R') : Wp X (k + 7) m_X1_goOn [vA (crs i), vA l, vI (σ.1 0 1), vI n] F A R Q := by
  have hP := hS.2.2.2.2.2.2.1 i hi
  refine w_goOn (k := k) (P := σ.2.1 i) (C := σ.2.2) (q := q i) hB.1 (crs_at hi) hP hS.2.1.1 hS.2.1.2 h0 hn (hB.std hi) (hB.2.2.2.2.2.2.1 i hi).1 (hC i hi) fun F' A' R' y1 y2 y3 => ?_
  have x := y3.qf hi hB.2.2.1
  refine hq F' A' R' ⟨hB.qf x, y3.cc hi hB.2.2.1 hC y1, x, ?_⟩ (y1.kn y2 h0)
  have hl := hB.2.2.1
  unfold lawD at hl
  obtain ⟨x1, x2, x3, x4⟩ := y3
  unfold crs at *
  exact ⟨fun f => x2 _ _ (by omega) (Or.inl (by omega)), fun f => x2 _ _ (by omega) (Or.inl (by omega)), fun a h1 h2 => x1 a (by omega) (by omega)⟩
theorem w_upTo {X : Int × (Int → Int)} {k : Nat} {Q : Vv → Fn2 → Fn2 → Fn2 → Prop} {F A R : Fn2} {σ : Sg} {q : Int → Int} {l n : Int} {i : Nat} (hS : SgI σ) (hB : CB σ q l F A R) (hC : CC σ q l F A R) (hi : i < 4) (h0 : 0 ≤ n) (hn : n ≤ 1000) (hq : ∀ F' A' R', CQ σ q l F A R F' A' R' → Kn σ i n A' → Q (vA (crs i)) F' A' R') : Wp X (k + 8) m_X10_courseUpTo [vA 0, vI i, vI n] F A R Q := by
  refine Wp.of [vA 0, vI i, vI n] rfl rfl rfl (b_X10_courseUpTo_0 hB.1 hB.2.2.2.2.1 (lawD_at hB.2.2.1) ⟨by omega, by omega, ?_⟩)
  rw [hB.2.2.2.2.2.2.2.2.2.2.2.1]
  refine w_goOnC (k := k) hS hB hC hi h0 hn fun F' A' R' y1 y2 => ?_
  exact b_X10_courseUpTo_18 y1.1.1 ⟨by omega, by omega, hq F' A' R' y1 y2⟩
/-- the plays of rows o, of a course that throws T -/
def PlO (o hi : Int) (T : Nat → Int) (N : Nat) (F A : Fn2) : Prop := F o 3 = min (cnN hi T N) 200 ∧ PlR (o + 1) (o + 2) (o + 3) (psN hi T N) A
theorem PX.qf {o : Int} {F A R F' A' : Fn2} (ho : At_Plays o) (hR : RS R) (x : PX o F A F' A') : QF F A R F' A' R := by
  unfold At_Plays at ho
  obtain ⟨x1, x2⟩ := x
  refine ⟨fun a ha => x1 a ?_, fun a f ha => x2 a f ?_, fun _ _ _ _ _ _ _ => rfl, fun h => ?_, hR, fun a ha => ⟨x1 a (by omega), funext fun f => x2 a f (by omega)⟩⟩
  · unfold isB at ha; omega
  · unfold isBF inQ at ha; omega
  · rw [x1 188 (by omega)]; exact h
theorem PX.cq {σ : Sg} {q : Int → Int} {l o : Int} {F A R F' A' : Fn2} (ho : At_Plays o) (hB : CB σ q l F A R) (hC : CC σ q l F A R) (x : PX o F A F' A') : CQ σ q l F A R F' A' R := by
  have h := x.qf ho hB.1
  unfold At_Plays at ho
  obtain ⟨x1, x2⟩ := x
  refine ⟨hB.qf h, hC.of (fun a h1 h2 h3 h4 h5 => x1 a (by omega)) (fun i hi => ?_), h, fun f => x2 _ _ (by omega), fun f => x2 _ _ (by omega), fun a h1 h2 => x1 a (by omega)⟩
  unfold crs
  exact ⟨x2 _ _ (by omega), fun f => ⟨x2 _ _ (by omega), rfl⟩⟩
theorem w_rcp {X : Int × (Int → Int)} {k : Nat} {Q : Vv → Fn2 → Fn2 → Fn2 → Prop} {F A R : Fn2} {σ : Sg} {q : Int → Int} {l : Int} {i N : Nat} (hS : SgI σ) (hB : CB σ q l F A R) (hC : CC σ q l F A R) (hi : i < 4) (hn : N ≤ 1000) (hq : ∀ F' A' R', CQ σ q l F A R F' A' R' → Kn σ i N A' → PlO 58 (σ.1 0 2) (th σ i) N F' A' → Q vN F' A' R') : Wp X (k + 8) m_X10_readCoursePlays [vA 0, vI i, vI N] F A R Q := by
  refine Wp.of [vA 0, vI i, vI N] rfl rfl rfl (b_X10_readCoursePlays_0 hB.1 hB.2.2.2.2.1 (lawD_at hB.2.2.1) ⟨by omega, by omega, ?_⟩)
  rw [hB.2.2.2.2.2.2.2.2.2.2.2.1]
  refine w_goOnC (k := k) hS hB hC hi (by omega) (by omega) fun F' A' R' y1 y2 => ?_
  refine b_X10_readCoursePlays_18 y1.1.1 ⟨by omega, by omega, ?_⟩
  rw [y1.1.2.2.2.2.2.2.2.2.2.2.2.2.1]
  have ec : (189 + 46 * (i : Int)) + 42 = crs i + 42 := rfl
  rw [ec]
  refine w_row (k := k + 6) y1.1.1 at_58 (la_Course_4 (crs_at hi)) (ln_Course_4 (crs_at hi)) (by unfold crs; omega) hn (T := th σ i) (fun s h1 h2 => (y2 s (by omega)).2.1) (fun s h1 h2 => by have := (th_b hS hi s).2; omega) fun F2 A2 z1 z2 z3 => ?_
  have x2 := z1.cq at_58 y1.1 y1.2.1
  refine b_X10_readCoursePlays_39 (hq F2 A2 R' (y1.trans x2) (fun t ht => ?_) ⟨z2, z3⟩)
  obtain ⟨k1, k2, k3, k4, k5⟩ := y2 t ht
  have e : ∀ c, 40 ≤ c → c ≤ 45 → A2 (crs i + c) = A' (crs i + c) := fun c h1 h2 => z1.1 _ (by unfold crs; omega)
  unfold KeptA
  rw [e 40 (by omega) (by omega), e 41 (by omega) (by omega), e 42 (by omega) (by omega), e 43 (by omega) (by omega), e 44 (by omega) (by omega), e 45 (by omega) (by omega)]
  exact ⟨k1, k2, k3, k4, k5⟩
/-- the trial stands ready: flow 28 over shelf i's spring -/
def TrR (σ : Sg) (q : Int → Int) (l : Int) (i : Nat) (jn lr lg : Int) (s F A R : Fn2) : Prop := FE 28 (q i) l (σ.2.1 i) σ.2.2 F A R ∧ FS 28 s F A ∧ F 28 2 = σ.1 0 1 ∧ F 28 12 = jn ∧ F 28 13 = lr ∧ F 28 14 = lg
theorem w_beginT {X : Int × (Int → Int)} {k : Nat} {Q : Vv → Fn2 → Fn2 → Fn2 → Prop} {F A R : Fn2} {σ : Sg} {q : Int → Int} {l : Int} {i : Nat} (hS : SgI σ) (hB : CB σ q l F A R) (hC : CC σ q l F A R) (hi : i < 4) (hq : ∀ F' A' R' s, CQ σ q l F A R F' A' R' → TrR σ q l i 1 (-1) 0 s F' A' R' → SEq True True (σ.2.1 i) s (zeroS (σ.2.1 i 5)) → Iv (σ.2.1 i) 0 0 0 0 0 s → (∀ r, 0 ≤ r → r < 8 → s 3 r = 0 ∧ s 2 r = σ.2.1 i 5 r) → (∀ a, a < 46 ∨ 49 < a → A' a = A a) → (∀ a f, a ≠ 28 → F' a f = F a f) → Q vN F' A' R') : Wp X (k + 3) m_X10_beginTrial [vA 0, vI i] F A R Q := by
  have hP := hS.2.2.2.2.2.2.1 i hi
  have h7 := hB.2.2.2.2.2.2.1 i hi
  have hst := hB.std hi
  refine Wp.of [vA 0, vI i] rfl rfl rfl (b_X10_beginTrial_0 hB.1 h7.1 hst.1 hB.2.2.2.2.1 hst.2.1 ⟨by omega, by omega, ?_⟩)
  rw [hB.2.2.2.2.2.2.2.2.2.2.2.1]
  refine w_begin (k := k) (P := σ.2.1 i) (cw := σ.1 0 1) hB.1 at_28 hst.1 hst.2.1 hP (h7.2.1 5 (by omega) (by omega)) fun F' A' R' hFB hR' => b_X10_beginTrial_27 ?_
  obtain ⟨b1, ⟨s, b2, b3, b4, b5⟩, c2, c12, c13, c14, b6, b7⟩ := hFB
  have b6' : ∀ a, a < 46 ∨ 49 < a → A' a = A a := fun a ha => b6 a (by omega)
  have hRq : ∀ a f, a ≠ 28 → R' a f = R a f := fun a f ha => by rw [b1, st2_n ha, st2_n ha]
  have hx : QF F A R F' A' R' := by
    refine ⟨fun a ha => b6' a ?_, fun a f ha => b7 a f ?_, fun a f h1 h2 h3 h4 h5 => hRq a f h1, fun h => ?_, hR', fun a ha => ⟨b6' a (by omega), funext fun f => b7 a f (by omega)⟩⟩
    · unfold isB at ha; omega
    · unfold isBF inQ at ha; omega
    · rw [b6' 188 (by omega)]; exact h
  have hB' := hB.qf hx
  have hcq : CQ σ q l F A R F' A' R' := by
    refine ⟨hB', hC.of (fun a h1 h2 h3 h4 h5 => b6' a (by omega)) (fun i hi => ?_), hx, fun f => b7 _ _ (by omega), fun f => b7 _ _ (by omega), fun a h1 h2 => b6' a (by omega)⟩
    unfold crs
    exact ⟨b7 _ _ (by omega), fun f => ⟨b7 _ _ (by omega), hRq _ _ (by omega)⟩⟩
  refine hq F' A' R' s hcq ⟨⟨?_, hst.1, ?_, hst.2.1, (hB'.std hi).2.2.1, (hB'.std hi).2.2.2⟩, b2, c2, c12, c13, c14⟩ b3 b4 b5 b6' b7
  · rw [b1, st2_s, u1_n (by omega), st2_s, u1_s]
  · rw [b1, st2_s, u1_s]
theorem TX.qf {l : Int} {F A R F' A' : Fn2} (hl : lawD l) (hR : RS R) (x : TX l F A F' A') : QF F A R F' A' R := by
  unfold lawD at hl
  obtain ⟨x1, x2⟩ := x
  refine ⟨fun a ha => x1 a ?_ ?_, fun a f ha => x2 a f ?_, fun _ _ _ _ _ _ _ => rfl, fun h => ?_, hR, fun a ha => ⟨x1 a (by omega) (by omega), funext fun f => x2 a f (by omega)⟩⟩
  · unfold isB at ha; omega
  · unfold isB at ha; omega
  · unfold isBF inQ at ha; omega
  · rw [x1 188 (by omega) (by omega)]; exact h
theorem TX.cq {σ : Sg} {q : Int → Int} {l : Int} {F A R F' A' : Fn2} (hB : CB σ q l F A R) (hC : CC σ q l F A R) (x : TX l F A F' A') : CQ σ q l F A R F' A' R := by
  have h := x.qf hB.2.2.1 hB.1
  have hl := hB.2.2.1
  unfold lawD at hl
  obtain ⟨x1, x2⟩ := x
  refine ⟨hB.qf h, hC.of (fun a h1 h2 h3 h4 h5 => x1 a (by omega) (by omega)) (fun i hi => ?_), h, fun f => x2 _ _ (by omega), fun f => x2 _ _ (by omega), fun a h1 h2 => x1 a (by omega) (by omega)⟩
  unfold crs
  exact ⟨x2 _ _ (by omega), fun f => ⟨x2 _ _ (by omega), rfl⟩⟩
/-- flow 28's own numbers are nobody else's -/
theorem f28_cq {σ : Sg} {q : Int → Int} {l : Int} {F A R F' : Fn2} (hB : CB σ q l F A R) (hC : CC σ q l F A R) (x : ∀ a f, a ≠ 28 → F' a f = F a f) : CQ σ q l F A R F' A R := by
  have h : QF F A R F' A R := by
    refine ⟨fun _ _ => rfl, fun a f ha => x a f ?_, fun _ _ _ _ _ _ _ => rfl, id, hB.1, fun a ha => ⟨rfl, funext fun f => x a f (by omega)⟩⟩
    unfold isBF inQ at ha; omega
  refine ⟨hB.qf h, hC.of (fun _ _ _ _ _ _ => rfl) (fun i hi => ?_), h, fun f => x _ _ (by omega), fun f => x _ _ (by omega), fun _ _ _ => rfl⟩
  unfold crs
  exact ⟨x _ _ (by omega), fun f => ⟨x _ _ (by omega), rfl⟩⟩
/-- the trial goes on from a start s, and its plays are read -/
theorem w_rtp {X : Int × (Int → Int)} {k : Nat} {Q : Vv → Fn2 → Fn2 → Fn2 → Prop} {F A R : Fn2} {σ : Sg} {q : Int → Int} {l : Int} {i N : Nat} {first n jn lr lg K c a g : Int} {s : Fn2} (hS : SgI σ) (hB : CB σ q l F A R) (hC : CC σ q l F A R) (hi : i < 4) (hf : 1 ≤ first) (hn : n ≤ 1000) (hn0 : 0 ≤ n) (hN : first - 1 + N = n) (hlg : 0 ≤ lg) (hT : TrR σ q l i jn lr lg s F A R) (hI : Iv (σ.2.1 i) K 1920 c a g s) (hK : K + 19512 * N + 19512 ≤ 41000000) (hc : c + 240 * N ≤ 10000000) (ha : a + 2712 * N ≤ 10000000) (hg : g + 792 * N ≤ 10000000) {T : Nat → Int} (hT1 : ∀ t : Nat, 1 ≤ t → (t : Int) < first → A 55 t = T t ∧ T t ≤ 1000000) (hT2 : ∀ t : Nat, 1 ≤ t → t ≤ N → T ((first - 1).toNat + t) = itS (tickA (σ.2.1 i) (LwF σ.2.2) (σ.1 0 1) jn lr lg) t s 9 15)
    (hq : ∀ F' A', CQ σ q l F A R F' A' R → PlO 62 (σ.1 0 2) T n.toNat F' A' → (∀ a, a = 59 ∨ a = 60 ∨ a = 61 → A' a = A a) → (∀ f, F' 58 f = F 58 f) → Q vN F' A' R) : Wp X (k + 7) m_X10_readTrialPlays [vA 0, vI first, vI n] F A R Q := by
  have hP := hS.2.2.2.2.2.2.1 i hi
  have hit := iv_it (jn := jn) (lr := lr) (lg := lg) hP (LwF_ok (C := σ.2.2)) hS.2.1.1 hS.2.1.2 hlg hI
  obtain ⟨t1, t2, t3, t4, t5, t6⟩ := hT
  refine Wp.of [vA 0, vI first, vI n] rfl rfl rfl (b_X10_readTrialPlays_0 hB.1 ?_)
  refine w_trial (k := k) (s := s) hB.1 hP hS.2.1.1 hS.2.1.2 hlg hf hn hN hI hK hc ha hg t1 t2 t3 t4 t5 t6 fun F1 A1 hp => ?_
  obtain ⟨p1, p2, p3, p4⟩ := hp
  have x1 := p1.cq hB hC
  refine b_X10_readTrialPlays_9 hB.1 ?_
  rw [x1.1.2.2.2.2.2.2.2.2.2.2.2.2.1]
  have en : n = (n.toNat : Int) := by omega
  rw [en]
  refine w_row (k := k + 5) hB.1 at_62 (by decide +kernel) (show Y1.2.1 55 = 1001 by decide +kernel) (by omega) (by omega) (T := T) (fun t h1 h2 => ?_) (fun t h1 h2 => ?_) fun F2 A2 z1 z2 z3 => b_X10_readTrialPlays_28 (hq F2 A2 (x1.trans (z1.cq at_62 x1.1 x1.2.1)) ⟨z2, z3⟩ (fun a ha => ?_) (fun f => ?_))
  · by_cases e : (t : Int) < first
    · rw [p3 _ e]; exact (hT1 t h1 e).1
    · have h3 := p2 (t - (first - 1).toNat) (by omega) (by omega)
      have h4 := hT2 (t - (first - 1).toNat) (by omega) (by omega)
      rw [show first - 1 + ((t - (first - 1).toNat : Nat) : Int) = t by omega] at h3
      rw [show (first - 1).toNat + (t - (first - 1).toNat) = t by omega] at h4
      rw [h3, h4]
  · by_cases e : (t : Int) < first
    · exact (hT1 t h1 e).2
    · have h4 := hT2 (t - (first - 1).toNat) (by omega) (by omega)
      rw [show (first - 1).toNat + (t - (first - 1).toNat) = t by omega] at h4
      have h5 := (hit (t - (first - 1).toNat)).2.2
      unfold Bk at h5
      rw [h4]; omega
  · have hl := hB.2.2.1
    unfold lawD at hl
    rw [z1.1 a (by omega), p1.1 a (by omega) (by omega)]
  · rw [z1.2 58 f (by omega), p1.2 58 f (by omega)]
