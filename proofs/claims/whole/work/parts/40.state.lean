/-! THE STATE BETWEEN CALLS: g the numbers (row 0: 0 bytes 1 cold 2 high 3 fault 4 its place 5 law lines 6 sights 7 time 8 logs; rows 1 bytes, 2 3 4 5 sights, 6 7 8 logs), Ps the springs, C the laws -/
abbrev Sg : Type := Fn2 × (Nat → Fn2) × (Nat → Option (List Int))
def inQ (a : Int) : Prop := a = 5 ∨ a = 190 ∨ a = 236 ∨ a = 282 ∨ a = 328
theorem inQ_at {a : Int} (h : inQ a) : At_Spring a := by unfold inQ at h; unfold At_Spring; omega
def SprD (q : Int → Int) : Prop := (∀ i, 0 ≤ i → i ≤ 4 → inQ (q i)) ∧ ∀ i j, 0 ≤ i → i < j → j ≤ 4 → q i ≠ q j
def lawD (l : Int) : Prop := l = 17 ∨ l = 22
theorem lawD_at {l : Int} (h : lawD l) : At_Laws l := by unfold lawD at h; unfold At_Laws; omega
/-- numbers that stand in order -/
def SgI (σ : Sg) : Prop := (0 ≤ σ.1 0 0 ∧ σ.1 0 0 ≤ 900) ∧ (0 ≤ σ.1 0 1 ∧ σ.1 0 1 ≤ 99) ∧ (1 ≤ σ.1 0 2 ∧ σ.1 0 2 ≤ 99) ∧ (0 ≤ σ.1 0 6 ∧ σ.1 0 6 ≤ 60) ∧ (0 ≤ σ.1 0 7 ∧ σ.1 0 7 ≤ 100000) ∧ LgI (σ.1 6) (σ.1 7) (σ.1 8) (σ.1 0 8) ∧ (∀ i : Nat, i < 4 → WFP (σ.2.1 i)) ∧ (∀ k, 0 ≤ k → k < σ.1 0 0 → 0 ≤ σ.1 1 k ∧ σ.1 1 k ≤ 255) ∧ (∀ i, 0 ≤ i → i < σ.1 0 6 → 1 ≤ σ.1 2 i ∧ σ.1 2 i ≤ 99 ∧ 0 ≤ σ.1 3 i ∧ σ.1 3 i ≤ 999 ∧ 0 ≤ σ.1 4 i ∧ σ.1 4 i ≤ 100000 ∧ -1 ≤ σ.1 5 i ∧ σ.1 5 i ≤ 100000)
/-- what the class holds, but for what it keeps to be quicker -/
def CB (σ : Sg) (q : Int → Int) (l : Int) (F A R : Fn2) : Prop :=
  RS R ∧ SprD q ∧ lawD l ∧ R 0 4 = q 4 ∧ R 0 5 = l ∧ R 0 6 = 39 - l ∧ (∀ i : Nat, i < 4 → R (189 + 46 * i) 0 = q i ∧ SpR (q i) (σ.2.1 i) F A) ∧
  F 0 1 = σ.1 0 0 ∧ (∀ k, 0 ≤ k → k < σ.1 0 0 → A 1 k = σ.1 1 k) ∧ CLw l A σ.2.2 ∧ F l 0 = σ.1 0 5 ∧ F 0 7 = σ.1 0 1 ∧ F 0 8 = σ.1 0 2 ∧
  (F 66 0 = σ.1 0 7 ∧ F 66 1 = σ.1 0 6 ∧ ∀ i, 0 ≤ i → i < σ.1 0 6 → A 67 i = σ.1 2 i ∧ A 68 i = σ.1 3 i ∧ A 69 i = σ.1 4 i ∧ A 70 i = σ.1 5 i) ∧
  (F 184 0 = σ.1 0 8 ∧ (∀ i, 0 ≤ i → i < σ.1 0 8 → A 185 i = σ.1 6 i ∧ A 186 i = σ.1 7 i ∧ A 187 i = σ.1 8 i) ∧ A 188 0 = 0) ∧ F 2 7 = σ.1 0 3 ∧ F 2 8 = σ.1 0 4
def crs (i : Nat) : Int := 189 + 46 * i
theorem crs_at {i : Nat} (h : i < 4) : At_Course (crs i) := by unfold crs At_Course; omega
def CC (σ : Sg) (q : Int → Int) (l : Int) (F A R : Fn2) : Prop := ∀ i : Nat, i < 4 → CrsI (crs i) (q i) l (σ.1 0 1) (σ.2.1 i) σ.2.2 F A R
/-- cells that hold what no question changes -/
def isB (a : Int) : Prop := a = 1 ∨ 5 ≤ a ∧ a ≤ 16 ∨ a = 18 ∨ a = 19 ∨ a = 20 ∨ a = 23 ∨ a = 24 ∨ a = 25 ∨ 67 ≤ a ∧ a ≤ 70 ∨ 185 ≤ a ∧ a ≤ 187 ∨ 190 ≤ a ∧ a ≤ 201 ∨ 236 ≤ a ∧ a ≤ 247 ∨ 282 ≤ a ∧ a ≤ 293 ∨ 328 ≤ a ∧ a ≤ 339
def isBF (a f : Int) : Prop := a = 0 ∧ (f = 1 ∨ f = 7 ∨ f = 8) ∨ a = 2 ∧ (f = 7 ∨ f = 8) ∨ inQ a ∨ a = 17 ∨ a = 22 ∨ a = 66 ∨ a = 184
/-- a question of the class: what it leaves -/
def QF (F A R F' A' R' : Fn2) : Prop := (∀ a, isB a → A' a = A a) ∧ (∀ a f, isBF a f → F' a f = F a f) ∧ (∀ a f, a ≠ 28 → a ≠ 202 → a ≠ 248 → a ≠ 294 → a ≠ 340 → R' a f = R a f) ∧ (A 188 0 = 0 → A' 188 0 = 0) ∧ RS R' ∧ (∀ a, 373 ≤ a → A' a = A a ∧ F' a = F a)
theorem QF.refl {F A R : Fn2} (h : RS R) : QF F A R F A R := ⟨fun _ _ => rfl, fun _ _ _ => rfl, fun _ _ _ _ _ _ _ => rfl, id, h, fun _ _ => ⟨rfl, rfl⟩⟩
theorem QF.trans {F A R F1 A1 R1 F2 A2 R2 : Fn2} (h : QF F A R F1 A1 R1) (g : QF F1 A1 R1 F2 A2 R2) : QF F A R F2 A2 R2 :=
  ⟨fun a h1 => (g.1 a h1).trans (h.1 a h1), fun a f h1 => (g.2.1 a f h1).trans (h.2.1 a f h1), fun a f h1 h2 h3 h4 h5 => (g.2.2.1 a f h1 h2 h3 h4 h5).trans (h.2.2.1 a f h1 h2 h3 h4 h5), fun h1 => g.2.2.2.1 (h.2.2.2.1 h1), g.2.2.2.2.1, fun a h1 => ⟨(g.2.2.2.2.2 a h1).1.trans (h.2.2.2.2.2 a h1).1, (g.2.2.2.2.2 a h1).2.trans (h.2.2.2.2.2 a h1).2⟩⟩
theorem SpR.of {q : Int} {P F A F' A' : Fn2} (hq : inQ q) (h : SpR q P F A) (hA : ∀ a, isB a → A' a = A a) (hF : ∀ a f, isBF a f → F' a f = F a f) : SpR q P F' A' := by
  obtain ⟨h1, h2, h3⟩ := h
  refine ⟨fun i a b => ?_, ?_, ?_⟩
  · rw [hA _ (by unfold inQ at hq; unfold isB; omega)]; exact h1 i a b
  · rw [hF _ _ (by unfold isBF; exact Or.inr (Or.inr (Or.inl hq)))]; exact h2
  · rw [hF _ _ (by unfold isBF; exact Or.inr (Or.inr (Or.inl hq)))]; exact h3
theorem CLw.ofB {l : Int} {A A' : Fn2} {C : Nat → Option (List Int)} (hl : lawD l) (h : CLw l A C) (hA : ∀ a, isB a → A' a = A a) : CLw l A' C :=
  h.of (hA _ (by unfold lawD at hl; unfold isB; omega)) (hA _ (by unfold lawD at hl; unfold isB; omega)) (hA _ (by unfold lawD at hl; unfold isB; omega))
theorem CB.qf {σ : Sg} {q : Int → Int} {l : Int} {F A R F' A' R' : Fn2} (h : CB σ q l F A R) (x : QF F A R F' A' R') : CB σ q l F' A' R' := by
  obtain ⟨h1, h2, h3, h4, h5, h6, h7, h8, h9, h10, h11, h12, h13, ⟨h14, h15, h16⟩, ⟨h17, h18, h19⟩, h20, h21⟩ := h
  obtain ⟨x1, x2, x3, x4, x5, x6⟩ := x
  have z1 : ∀ i : Nat, i < 4 → R' (189 + 46 * i) 0 = R (189 + 46 * i) 0 := fun i hi => x3 _ _ (by omega) (by omega) (by omega) (by omega) (by omega)
  refine ⟨x5, h2, h3, ?_, ?_, ?_, fun i hi => ⟨by rw [z1 i hi]; exact (h7 i hi).1, ((h7 i hi).2).of (h2.1 i (by omega) (by omega)) x1 x2⟩, ?_, fun k a b => ?_, h10.ofB h3 x1, ?_, ?_, ?_, ⟨?_, ?_, fun i a b => ?_⟩, ⟨?_, fun i a b => ?_, x4 h19⟩, ?_, ?_⟩
  · rw [x3 _ _ (by omega) (by omega) (by omega) (by omega) (by omega)]; exact h4
  · rw [x3 _ _ (by omega) (by omega) (by omega) (by omega) (by omega)]; exact h5
  · rw [x3 _ _ (by omega) (by omega) (by omega) (by omega) (by omega)]; exact h6
  · rw [x2 _ _ (by unfold isBF; omega)]; exact h8
  · rw [x1 _ (by unfold isB; omega)]; exact h9 k a b
  · rw [x2 _ _ (by unfold isBF; unfold lawD at h3; omega)]; exact h11
  · rw [x2 _ _ (by unfold isBF; omega)]; exact h12
  · rw [x2 _ _ (by unfold isBF; omega)]; exact h13
  · rw [x2 _ _ (by unfold isBF; omega)]; exact h14
  · rw [x2 _ _ (by unfold isBF; omega)]; exact h15
  · rw [x1 _ (by unfold isB; omega), x1 _ (by unfold isB; omega), x1 _ (by unfold isB; omega), x1 _ (by unfold isB; omega)]; exact h16 i a b
  · rw [x2 _ _ (by unfold isBF; omega)]; exact h17
  · rw [x1 _ (by unfold isB; omega), x1 _ (by unfold isB; omega), x1 _ (by unfold isB; omega)]; exact h18 i a b
  · rw [x2 _ _ (by unfold isBF; omega)]; exact h20
  · rw [x2 _ _ (by unfold isBF; omega)]; exact h21
/-- what course o keeps hangs on its own cells -/
theorem CrsI.of {o q l cw : Int} {P F A R F' A' R' : Fn2} {C : Nat → Option (List Int)} (h : CrsI o q l cw P C F A R) (h1 : ∀ a, o + 31 ≤ a → a ≤ o + 45 → A' a = A a) (h2 : F' o 8 = F o 8) (h3 : ∀ f, F' (o + 13) f = F (o + 13) f) (h4 : ∀ f, R' (o + 13) f = R (o + 13) f) : CrsI o q l cw P C F' A' R' := by
  rcases h with h | ⟨u, u1, u2, u3, u4, u5, u6, u7, u8, ⟨s, ⟨e0, e1, e2, e3, f5, f6, f7, f8⟩, s2, s3⟩, u9⟩
  · exact Or.inl (by rw [h2]; exact h)
  · refine Or.inr ⟨u, by rw [h2]; exact u1, u2, by rw [h4]; exact u3, by rw [h4]; exact u4, by rw [h3]; exact u5, by rw [h3]; exact u6, by rw [h3]; exact u7, by rw [h3]; exact u8, ⟨s, ⟨?_, ?_, ?_, ?_, ?_, ?_, ?_, ?_⟩, s2, s3⟩, fun t ht => ?_⟩
    · rw [h1 _ (by omega) (by omega)]; exact e0
    · rw [h1 _ (by omega) (by omega)]; exact e1
    · rw [h1 _ (by omega) (by omega)]; exact e2
    · rw [h1 _ (by omega) (by omega)]; exact e3
    · rw [h3]; exact f5
    · rw [h3]; exact f6
    · rw [h3]; exact f7
    · rw [h3]; exact f8
    · obtain ⟨k1, k2, k3, k4, k5⟩ := u9 t ht
      refine ⟨fun r a b => ?_, ?_, ?_, ?_, ?_⟩
      · rw [h1 _ (by omega) (by omega), h1 _ (by omega) (by omega)]; exact k1 r a b
      · rw [h1 _ (by omega) (by omega)]; exact k2
      · rw [h1 _ (by omega) (by omega)]; exact k3
      · rw [h1 _ (by omega) (by omega)]; exact k4
      · rw [h1 _ (by omega) (by omega)]; exact k5
/-- a course that goes on: the rest stands -/
theorem CX.qf {i : Nat} {l : Int} {F A R F' A' R' : Fn2} (hi : i < 4) (hl : lawD l) (x : CX (crs i) l F A R F' A' R') : QF F A R F' A' R' := by
  obtain ⟨x1, x2, x3, x4⟩ := x
  unfold crs at *
  unfold lawD at hl
  refine ⟨fun a ha => x1 a ?_ ?_, fun a f ha => x2 a f ?_ ?_, fun a f h1 h2 h3 h4 h5 => x3 a f (Or.inl (by omega)), fun h => ?_, x4, fun a ha => ⟨x1 a (by omega) (by omega), funext fun f => x2 a f (by omega) (by omega)⟩⟩
  · unfold isB at ha; omega
  · unfold isB at ha; omega
  · unfold isBF inQ at ha; omega
  · unfold isBF inQ at ha; omega
  · rw [x1 188 (by omega) (by omega)]; exact h
theorem CX.cc {σ : Sg} {q : Int → Int} {i : Nat} {l : Int} {F A R F' A' R' : Fn2} (hi : i < 4) (hl : lawD l) (x : CX (crs i) l F A R F' A' R') (h : CC σ q l F A R) (hI : CrsI (crs i) (q i) l (σ.1 0 1) (σ.2.1 i) σ.2.2 F' A' R') : CC σ q l F' A' R' := by
  intro j hj
  by_cases e : j = i
  · subst e; exact hI
  · obtain ⟨x1, x2, x3, x4⟩ := x
    unfold lawD at hl
    have hc := h j hj
    unfold crs at *
    exact hc.of (fun a h1 h2 => x1 a (by omega) (by omega)) (x2 _ _ (by omega) (Or.inl (by omega))) (fun f => x2 _ _ (by omega) (Or.inl (by omega))) (fun f => x3 _ _ (Or.inl (by omega)))
/-- other cells than the courses': they keep what they kept -/
theorem CC.of {σ : Sg} {q : Int → Int} {l : Int} {F A R F' A' R' : Fn2} (h : CC σ q l F A R) (h1 : ∀ a, 220 ≤ a → ¬ (236 ≤ a ∧ a ≤ 247) → ¬ (282 ≤ a ∧ a ≤ 293) → ¬ (328 ≤ a ∧ a ≤ 339) → a ≤ 372 → A' a = A a) (h2 : ∀ i : Nat, i < 4 → F' (crs i) 8 = F (crs i) 8 ∧ ∀ f, F' (crs i + 13) f = F (crs i + 13) f ∧ R' (crs i + 13) f = R (crs i + 13) f) : CC σ q l F' A' R' := by
  intro i hi
  refine (h i hi).of (fun a b1 b2 => ?_) (h2 i hi).1 (fun f => ((h2 i hi).2 f).1) (fun f => ((h2 i hi).2 f).2)
  unfold crs at b1 b2
  exact h1 a (by omega) (by omega) (by omega) (by omega) (by omega)
theorem CB.std {σ : Sg} {q : Int → Int} {l : Int} {F A R : Fn2} {i : Nat} (h : CB σ q l F A R) (hi : i < 4) : Std (q i) l (σ.2.1 i) σ.2.2 F A := ⟨inQ_at (h.2.1.1 i (by omega) (by omega)), lawD_at h.2.2.1, (h.2.2.2.2.2.2.1 i hi).2, h.2.2.2.2.2.2.2.2.2.1⟩
/-- what the reference holds -/
def XI (σ : Sg) (b : Int → Int) (F A : Fn2) : Prop :=
  (∀ i, 0 ≤ i → i ≤ 4 → 0 ≤ b i ∧ b i ≤ 4) ∧ (∀ i j, 0 ≤ i → i < j → j ≤ 4 → b i ≠ b j) ∧ (∀ i : Nat, i < 4 → A 376 i = b i ∧ PEq (σ.2.1 i) (RPm (b i) A) ∧ WFP (RPm (b i) A)) ∧ F 373 25 = b 4 ∧
  F 373 2 = σ.1 0 0 ∧ (∀ k, 0 ≤ k → k < σ.1 0 0 → A 374 k = bi2b (σ.1 1 k)) ∧ XLw A σ.2.2 ∧ F 373 35 = σ.1 0 5 ∧ F 373 55 = σ.1 0 1 ∧ F 373 56 = σ.1 0 2 ∧
  (F 373 73 = σ.1 0 7 ∧ F 373 72 = σ.1 0 6 ∧ ∀ i, 0 ≤ i → i < σ.1 0 6 → A 408 i = σ.1 2 i ∧ A 409 i = σ.1 3 i ∧ A 410 i = σ.1 4 i ∧ A 411 i = σ.1 5 i) ∧
  (F 373 78 = σ.1 0 8 ∧ ∀ i, 0 ≤ i → i < σ.1 0 8 → A 417 i = σ.1 6 i ∧ A 418 i = σ.1 7 i ∧ A 419 i = σ.1 8 i) ∧ F 373 4 = σ.1 0 3 ∧ F 373 5 = σ.1 0 4
/-- a question of the reference: what it leaves -/
def RF (F A F' A' : Fn2) : Prop := (∀ a, a = 374 ∨ 376 ≤ a ∧ a ≤ 388 ∨ 390 ≤ a ∧ a ≤ 393 ∨ a = 397 ∨ 408 ≤ a ∧ a ≤ 411 ∨ 417 ≤ a ∧ a ≤ 419 ∨ a < 373 → A' a = A a) ∧ (∀ f, f = 2 ∨ f = 4 ∨ f = 5 ∨ f = 25 ∨ f = 35 ∨ f = 55 ∨ f = 56 ∨ f = 72 ∨ f = 73 ∨ f = 78 → F' 373 f = F 373 f) ∧ ∀ a, a ≠ 373 → F' a = F a
theorem RF.refl {F A : Fn2} : RF F A F A := ⟨fun _ _ => rfl, fun _ _ => rfl, fun _ _ => rfl⟩
theorem RF.trans {F A F1 A1 F2 A2 : Fn2} (h : RF F A F1 A1) (g : RF F1 A1 F2 A2) : RF F A F2 A2 :=
  ⟨fun a h1 => (g.1 a h1).trans (h.1 a h1), fun f h1 => (g.2.1 f h1).trans (h.2.1 f h1), fun a h1 => (g.2.2 a h1).trans (h.2.2 a h1)⟩
theorem RXB.rf {F A F' A' : Fn2} (h : RXB F A F' A') : RF F A F' A' := ⟨fun a h1 => h.1 a (by omega), fun f h1 => h.2 373 f (by omega), fun a h1 => funext fun f => h.2 a f (Or.inl h1)⟩
theorem XI.rf {σ : Sg} {b : Int → Int} {F A F' A' : Fn2} (h : XI σ b F A) (x : RF F A F' A') : XI σ b F' A' := by
  obtain ⟨h1, h2, h3, h4, h5, h6, ⟨c1, c2, c3⟩, h8, h9, h10, ⟨h11, h12, h13⟩, ⟨h14, h15⟩, h16, h17⟩ := h
  obtain ⟨x1, x2, x3⟩ := x
  have z : ∀ i c, XL1 A i c → XL1 A' i c := fun i c hc => hc.of (x1 _ (by omega)) (x1 _ (by omega)) (x1 _ (by omega)) (x1 _ (by omega)) (x1 _ (by omega))
  have e : ∀ b, RPm b A' = RPm b A := fun b => RPm_st fun a h1 h2 => x1 a (by omega)
  refine ⟨h1, h2, fun i hi => ?_, ?_, ?_, fun k a b => ?_, ⟨z _ _ c1, z _ _ c2, z _ _ c3⟩, ?_, ?_, ?_, ⟨?_, ?_, fun i a b => ?_⟩, ⟨?_, fun i a b => ?_⟩, ?_, ?_⟩
  · rw [e, x1 376 (by omega)]; exact h3 i hi
  · rw [x2 _ (by omega)]; exact h4
  · rw [x2 _ (by omega)]; exact h5
  · rw [x1 _ (by omega)]; exact h6 k a b
  · rw [x2 _ (by omega)]; exact h8
  · rw [x2 _ (by omega)]; exact h9
  · rw [x2 _ (by omega)]; exact h10
  · rw [x2 _ (by omega)]; exact h11
  · rw [x2 _ (by omega)]; exact h12
  · rw [x1 _ (by omega), x1 _ (by omega), x1 _ (by omega), x1 _ (by omega)]; exact h13 i a b
  · rw [x2 _ (by omega)]; exact h14
  · rw [x1 _ (by omega), x1 _ (by omega), x1 _ (by omega)]; exact h15 i a b
  · rw [x2 _ (by omega)]; exact h16
  · rw [x2 _ (by omega)]; exact h17
theorem XI.xg {σ : Sg} {b : Int → Int} {F A : Fn2} {i : Nat} (h : XI σ b F A) (hi : i < 4) : XG (b i) (RPm (b i) A) σ.2.2 A := ⟨(h.1 i (by omega) (by omega)).1, (h.1 i (by omega) (by omega)).2, rfl, h.2.2.2.2.2.2.1, (h.2.2.1 i hi).2.2⟩
