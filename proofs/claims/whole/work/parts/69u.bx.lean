/-! THE BOARD, the reference: gathering, rows -/
def XT (A : Fn2) (b : Int) : Int → Int := fun i => A b (A 416 i)
def BdX (c : Cf) (n : Nat) (F A : Fn2) : Prop := Tb c n (XT A 408) (XT A 409) ∧ F 373 74 = n ∧ srtd (XT A 408) n ∧ ∀ i : Int, 0 ≤ i → i < n → 0 ≤ A 416 i ∧ A 416 i < 60
def SiX (σ : Sg) (F A : Fn2) : Prop := F 373 72 = σ.1 0 6 ∧ (0 ≤ σ.1 0 6 ∧ σ.1 0 6 ≤ 60) ∧ ∀ i, 0 ≤ i → i < σ.1 0 6 → (A 408 i = σ.1 2 i ∧ A 409 i = σ.1 3 i ∧ A 410 i = σ.1 4 i ∧ A 411 i = σ.1 5 i) ∧ 1 ≤ σ.1 2 i ∧ σ.1 2 i ≤ 99 ∧ 0 ≤ σ.1 3 i ∧ σ.1 3 i ≤ 999 ∧ -1 ≤ σ.1 5 i
theorem XI.si {σ : Sg} {b : Int → Int} {F A : Fn2} (hS : SgI σ) (hX : XI σ b F A) : SiX σ F A := by
  obtain ⟨h1, h2, h3, h4, h5, h6, h7, h8, h9, h10, ⟨h11, h12, h13⟩, h14⟩ := hX
  obtain ⟨s1, s2, s3, s4, s5, s6, s7, s8, s9⟩ := hS
  refine ⟨h12, s4, fun i i0 i1 => ⟨h13 i i0 i1, ?_⟩⟩
  have := s9 i i0 i1
  omega
theorem x_ins {X : Int × (Int → Int)} {k : Nat} {Q : Vv → Fn2 → Fn2 → Fn2 → Prop} {R : Fn2} {σ : Sg} {kk : Int} {F : Fn2} (hR : RS R) {c : Cf} {n m : Nat} {A : Fn2} (sI : SiX σ F A) (hm : (m : Int) < σ.1 0 6) (hn : n ≤ m) (bt : BdX c n F A) (hq : ∀ F' A', F' = st2 F 373 74 ((n : Int) + 1) → BdX (fun P => c P + (if P (σ.1 2 m) (σ.1 3 m) = true then 1 else 0)) (n + 1) F' A' → (∀ z, z ≠ 416 → A' z = A z) → ∀ x3, G X k m_X11_gather Q 7 [vA 373, vI kk, vI ((m : Int) + 1), vI x3] [] F' A' R) : G X k m_X11_gather Q 52 [vA 373, vI kk, vI m, vI (F 373 74)] [] F A R := by
  obtain ⟨T, h74, srt, hr⟩ := bt
  have m60 : (m : Int) < 60 := by have := sI.2.1; omega
  have bb := sI.2.2 m (by omega) hm
  rw [h74]
  have lp : ∀ (a : Nat) (A1 : Fn2), a ≤ n → (∀ z, z ≠ 416 → A1 z = A z) → (∀ i : Int, i < a → A1 416 i = A 416 i) → (∀ i : Int, (a : Int) < i → i ≤ n → A1 416 i = A 416 (i - 1)) → (∀ i : Int, (a : Int) ≤ i → i < n → σ.1 2 m < XT A 408 i) → G X k m_X11_gather Q 52 [vA 373, vI kk, vI m, vI a] [] F A1 R := by
    intro a
    have fin : ∀ (a : Nat) (A1 : Fn2), a ≤ n → (∀ z, z ≠ 416 → A1 z = A z) → (∀ i : Int, i < a → A1 416 i = A 416 i) → (∀ i : Int, (a : Int) < i → i ≤ n → A1 416 i = A 416 (i - 1)) → (∀ i : Int, (a : Int) ≤ i → i < n → σ.1 2 m < XT A 408 i) → (∀ i : Int, 0 ≤ i → i < a → XT A 408 i ≤ σ.1 2 m) → (0 ≤ (a : Int) ∧ (a : Int) < 60 ∧ (∀ A2 : Fn2, A2 = st2 A1 416 a m → ((-2147483648 ≤ F 373 74 + 1 ∧ F 373 74 + 1 ≤ 2147483647) ∧ (∀ F2 : Fn2, F2 = st2 F 373 74 (F 373 74 + 1) → ((-2147483648 ≤ (m : Int) + 1 ∧ (m : Int) + 1 ≤ 2147483647) ∧ G X k m_X11_gather Q 7 [vA 373, vI kk, vI ((m : Int) + 1), vI a] [] F2 A2 R))))) := by
      intro a A1 ha f1 hlo hhi hgt hle
      refine ⟨by omega, by omega, fun A2 hA2 => ?_⟩
      rw [h74]
      refine ⟨by omega, fun F2 hF2 => ⟨by omega, hq F2 A2 hF2 ?_ (fun z hz => by rw [hA2, st2_n hz]; exact f1 z hz) _⟩⟩
      have e416 : A2 416 = u1 (A1 416) a m := by rw [hA2, st2_s]
      have e408 : A2 408 = A 408 := by rw [hA2, st2_n (by decide)]; exact f1 408 (by decide)
      have e409 : A2 409 = A 409 := by rw [hA2, st2_n (by decide)]; exact f1 409 (by decide)
      have lo : ∀ i : Int, i < a → A2 416 i = A 416 i := fun i hi => by rw [e416, u1_n (by omega)]; exact hlo i hi
      have at' : A2 416 a = m := by rw [e416, u1_s]
      have hi' : ∀ i : Int, (a : Int) < i → i ≤ n → A2 416 i = A 416 (i - 1) := fun i i0 i1 => by rw [e416, u1_n (by omega)]; exact hhi i i0 i1
      have xlo : ∀ i : Int, i < a → XT A2 408 i = XT A 408 i ∧ XT A2 409 i = XT A 409 i := fun i hi => by unfold XT; rw [e408, e409, lo i hi]; exact ⟨rfl, rfl⟩
      have xat : XT A2 408 a = σ.1 2 m ∧ XT A2 409 a = σ.1 3 m := by unfold XT; rw [e408, e409, at']; exact ⟨bb.1.1, bb.1.2.1⟩
      have xhi : ∀ i : Int, (a : Int) < i → i ≤ n → XT A2 408 i = XT A 408 (i - 1) ∧ XT A2 409 i = XT A 409 (i - 1) := fun i i0 i1 => by unfold XT; rw [e408, e409, hi' i i0 i1]; exact ⟨rfl, rfl⟩
      refine ⟨⟨funext fun P => ?_, by omega, fun i i0 i1 => ?_⟩, by rw [hF2, st2_s, u1_s]; omega, fun i j i0 ij j1 => ?_, fun i i0 i1 => ?_⟩
      · have e1 := ct_ins (p := fun i => P (XT A 408 i) (XT A 409 i)) (f := fun i => if i < (a : Int) then P (XT A 408 i) (XT A 409 i) else if i = a then P (σ.1 2 m) (σ.1 3 m) else P (XT A 408 (i - 1)) (XT A 409 (i - 1))) (x := P (σ.1 2 m) (σ.1 3 m)) (a := a) (fun i hi => if_pos hi) (by show (if (a : Int) < a then _ else if (a : Int) = a then P (σ.1 2 m) (σ.1 3 m) else _) = P (σ.1 2 m) (σ.1 3 m); rw [if_neg (by omega), if_pos rfl]) (fun i hi => by show (if i < (a : Int) then _ else if i = (a : Int) then _ else _) = _; rw [if_neg (by omega), if_neg (by omega)]) n ha
        rw [T.1]
        show ct (fun i => P (XT A 408 i) (XT A 409 i)) n + (if P (σ.1 2 m) (σ.1 3 m) = true then 1 else 0) = ct (fun i => P (XT A2 408 i) (XT A2 409 i)) (n + 1)
        rw [← e1]
        refine ct_e (n + 1) (fun i i0 i1 => ?_)
        show (if i < (a : Int) then P (XT A 408 i) (XT A 409 i) else if i = a then P (σ.1 2 m) (σ.1 3 m) else P (XT A 408 (i - 1)) (XT A 409 (i - 1))) = P (XT A2 408 i) (XT A2 409 i)
        by_cases y : i < a
        · rw [if_pos y, (xlo i y).1, (xlo i y).2]
        · rw [if_neg y]
          by_cases z : i = a
          · rw [if_pos z, z, xat.1, xat.2]
          · rw [if_neg z, (xhi i (by omega) (by omega)).1, (xhi i (by omega) (by omega)).2]
      · by_cases y : i < a
        · rw [(xlo i y).1, (xlo i y).2]; exact T.2.2 i i0 (by omega)
        · by_cases z : i = a
          · rw [z, xat.1, xat.2]; exact ⟨bb.2.1, bb.2.2.1, bb.2.2.2.1, bb.2.2.2.2.1⟩
          · rw [(xhi i (by omega) (by omega)).1, (xhi i (by omega) (by omega)).2]; exact T.2.2 (i - 1) (by omega) (by omega)
      · by_cases yj : j < a
        · rw [(xlo i (by omega)).1, (xlo j yj).1]; exact srt i j i0 ij (by omega)
        · by_cases zj : j = a
          · rw [zj, xat.1]
            by_cases yi : i < a
            · rw [(xlo i yi).1]; exact hle i i0 yi
            · rw [show i = (a : Int) by omega, xat.1]; exact Int.le_refl _
          · rw [(xhi j (by omega) (by omega)).1]
            by_cases yi : i < a
            · rw [(xlo i yi).1]; exact srt i (j - 1) i0 (by omega) (by omega)
            · by_cases zi : i = a
              · rw [zi, xat.1]; have := hgt (j - 1) (by omega) (by omega); omega
              · rw [(xhi i (by omega) (by omega)).1]; exact srt (i - 1) (j - 1) (by omega) (by omega) (by omega)
      · by_cases y : i < a
        · rw [lo i y]; exact hr i i0 (by omega)
        · by_cases z : i = a
          · rw [z, at']; omega
          · rw [hi' i (by omega) (by omega)]; exact hr (i - 1) (by omega) (by omega)
    induction a with
    | zero =>
      intro A1 ha f1 hlo hhi hgt
      exact b_X11_gather_52 hR ⟨fun _ => fin 0 A1 ha f1 hlo hhi hgt (fun i i0 i1 => absurd i1 (by omega)), fun h => absurd h (by decide)⟩
    | succ a ih =>
      intro A1 ha f1 hlo hhi hgt
      have e1 : ((a + 1 : Nat) : Int) - 1 = a := by omega
      refine b_X11_gather_52 hR ⟨fun h => absurd (show (0 : Int) < ((a + 1 : Nat) : Int) by omega) h, fun _ => ?_⟩
      have ea := hlo a (by omega)
      have ra := hr a (by omega) (by omega)
      rw [e1, ea, f1 408 (by decide), bb.1.1]
      refine ⟨by omega, by omega, by omega, ra.1, ra.2, by omega, by omega, fun hnlt => fin (a + 1) A1 ha f1 hlo hhi hgt (fun i i0 i1 => ?_), fun hlt => ⟨by omega, by omega, fun A5 hA5 => ⟨by omega, ?_⟩⟩⟩
      · have := srt i a i0 (by omega) (by omega)
        have e2 : XT A 408 a = A 408 (A 416 a) := rfl
        omega
      · rw [show ((a + 1 : Nat) : Int) + -1 = (a : Int) by omega]
        refine ih A5 (by omega) (fun z hz => by rw [hA5, st2_n hz]; exact f1 z hz) (fun i hi => ?_) (fun i i0 i1 => ?_) (fun i i0 i1 => ?_)
        · rw [hA5, st2_s, u1_n (by omega)]; exact hlo i (by omega)
        · rw [hA5, st2_s]
          by_cases e : i = ((a + 1 : Nat) : Int)
          · subst e; rw [u1_s, e1]
          · rw [u1_n e]; exact hhi i (by omega) i1
        · by_cases e : i = a
          · rw [e]; exact hlt
          · exact hgt i (by omega) i1
  exact lp n A (Nat.le_refl n) (fun _ _ => rfl) (fun _ _ => rfl) (fun i i0 i1 => by omega) (fun i i0 i1 => by omega)
theorem SiX.e {σ : Sg} {F A F' A' : Fn2} (h : SiX σ F A) (h1 : F' 373 72 = F 373 72) (h2 : ∀ z, 408 ≤ z → z ≤ 411 → A' z = A z) : SiX σ F' A' := by
  refine ⟨by rw [h1]; exact h.1, h.2.1, fun i i0 i1 => ?_⟩
  rw [h2 408 (by decide) (by decide), h2 409 (by decide) (by decide), h2 410 (by decide) (by decide), h2 411 (by decide) (by decide)]
  exact h.2.2 i i0 i1
theorem x_gather {X : Int × (Int → Int)} {k : Nat} {Q : Vv → Fn2 → Fn2 → Fn2 → Prop} {F A R : Fn2} {σ : Sg} {kk : Int} (hR : RS R) (hI : SiX σ F A) (hq : ∀ F' A' (n : Nat), BdX (cfA σ kk) n F' A' → (∀ z, z ≠ 416 → A' z = A z) → (∀ a f, a ≠ 373 ∨ f ≠ 74 → F' a f = F a f) → Q vN F' A' R) : Wp X (k + 1) m_X11_gather [vA 373, vI kk] F A R Q := by
  have hn := hI.2.1
  have lp : ∀ (g m : Nat) (n : Nat) (F1 A1 : Fn2) (w3 : Vv), (m : Int) + g = σ.1 0 6 → n ≤ m → BdX (cfS σ kk m) n F1 A1 → (∀ z, z ≠ 416 → A1 z = A z) → (∀ a f, a ≠ 373 ∨ f ≠ 74 → F1 a f = F a f) → G X k m_X11_gather Q 7 [vA 373, vI kk, vI m, w3] [] F1 A1 R := by
    intro g
    induction g with
    | zero =>
      intro m n F1 A1 w3 hm hnm bt f1 x1
      refine b_X11_gather_7 hR ⟨fun _ => hq F1 A1 n ?_ f1 x1, fun h => absurd h (by rw [x1 373 72 (by omega), hI.1]; omega)⟩
      show BdX (cfS σ kk (σ.1 0 6).toNat) n F1 A1
      rw [show (σ.1 0 6).toNat = m by omega]; exact bt
    | succ g ih =>
      intro m n F1 A1 w3 hm hnm bt f1 x1
      have I1 : SiX σ F1 A1 := hI.e (x1 373 72 (by omega)) (fun z z0 z1 => f1 z (by omega))
      have bb := I1.2.2 m (by omega) (by omega)
      have skip : ¬ knS σ kk m = true → (-2147483648 ≤ (m : Int) + 1 ∧ (m : Int) + 1 ≤ 2147483647) ∧ G X k m_X11_gather Q 7 [vA 373, vI kk, vI ((m : Int) + 1), w3] [] F1 A1 R := fun hk => by
        refine ⟨by omega, ih (m + 1) n F1 A1 w3 (by omega) (by omega) ?_ f1 x1⟩
        have e : cfS σ kk (m + 1) = cfS σ kk m := by
          rw [cfS_s]; funext P; rw [if_neg hk]; omega
        rw [e]; exact bt
      have take : knS σ kk m = true → ∀ g1, g1 = F1 373 74 → G X k m_X11_gather Q 52 [vA 373, vI kk, vI m, vI g1] [] F1 A1 R := fun hk g1 hg1 => by
        subst hg1
        refine x_ins (k := k) (σ := σ) (c := cfS σ kk m) hR I1 (by omega) hnm bt (fun F2 A2 hF2 bt2 f2 x3 => ?_)
        refine ih (m + 1) (n + 1) F2 A2 _ (by omega) (by omega) ?_ (fun z hz => (f2 z hz).trans (f1 z hz)) (fun a f hx => by rw [st373 hF2 a f hx]; exact x1 a f hx)
        rw [cfS_s]
        simp only [hk, if_true]
        exact bt2
      refine b_X11_gather_7 hR ⟨fun h => absurd (show (m : Int) < F1 373 72 by rw [I1.1]; omega) h, fun _ => ⟨by omega, by omega, ?_⟩⟩
      rw [bb.1.2.2.1, bb.1.2.2.2]
      refine ⟨fun h => skip (fun z => by have := knS_t.1 z; omega), fun h => ⟨fun e g1 hg1 => take (knS_t.2 (by omega)) g1 hg1, fun e => ⟨fun g2 g1 hg1 => take (knS_t.2 (by omega)) g1 hg1, fun g2 => skip (fun z => by have := knS_t.1 z; omega)⟩⟩⟩
  refine Wp.of [vA 373, vI kk, vN, vN] rfl rfl rfl (b_X11_gather_0 fun F1 hF1 => ?_)
  exact lp (σ.1 0 6).toNat 0 0 F1 A vN (by omega) (Nat.le_refl 0) ⟨⟨rfl, by decide, fun i i0 i1 => absurd i1 (by omega)⟩, by rw [hF1, st2_s, u1_s]; rfl, fun i j i0 ij j1 => absurd j1 (by omega), fun i i0 i1 => absurd i1 (by omega)⟩ (fun _ _ => rfl) (st373 hF1)
/-- how many are shorter -/
def shX (l : Int → Int) (n : Nat) (x : Int) : Nat := (fstI (fun i => decide (x ≤ l i)) n 0).toNat
theorem shX_p {l : Int → Int} {n : Nat} (hs : srtd l n) (x : Int) : shX l n x ≤ n ∧ ∀ i : Int, 0 ≤ i → i < n → (x ≤ l i ↔ (shX l n x : Int) ≤ i) := by
  have key : ∀ (m : Nat) (j : Int), 0 ≤ j → j + m = n → (∀ i, 0 ≤ i → i < j → ¬ x ≤ l i) → 0 ≤ fstI (fun i => decide (x ≤ l i)) m j ∧ fstI (fun i => decide (x ≤ l i)) m j ≤ n ∧ ∀ i : Int, 0 ≤ i → i < n → (x ≤ l i ↔ fstI (fun i => decide (x ≤ l i)) m j ≤ i) := by
    intro m
    induction m with
    | zero =>
      intro j j0 jn hj
      show 0 ≤ j ∧ j ≤ n ∧ ∀ i : Int, 0 ≤ i → i < n → (x ≤ l i ↔ j ≤ i)
      exact ⟨j0, by omega, fun i i0 i1 => ⟨fun h => absurd h (hj i i0 (by omega)), fun h => by omega⟩⟩
    | succ m ih =>
      intro j j0 jn hj
      have e : fstI (fun i => decide (x ≤ l i)) (m + 1) j = if decide (x ≤ l j) = true then j else fstI (fun i => decide (x ≤ l i)) m (j + 1) := rfl
      rw [e]
      by_cases h : x ≤ l j
      · rw [if_pos (decide_eq_true h)]
        refine ⟨j0, by omega, fun i i0 i1 => ⟨fun hx => ?_, fun hi => ?_⟩⟩
        · by_cases y : j ≤ i
          · exact y
          · exact absurd hx (hj i i0 (by omega))
        · have := hs j i j0 hi i1; omega
      · rw [if_neg (by rw [decide_eq_true_iff]; exact h)]
        refine ih (j + 1) (by omega) (by omega) (fun i i0 i1 => ?_)
        by_cases y : i = j
        · rw [y]; exact h
        · exact hj i i0 (by omega)
  obtain ⟨a, b, d⟩ := key n 0 (Int.le_refl 0) (by omega) (fun i i0 i1 => by omega)
  unfold shX
  refine ⟨by omega, fun i i0 i1 => ?_⟩
  rw [d i i0 i1, Int.toNat_of_nonneg a]
theorem x_shorter {X : Int × (Int → Int)} {k : Nat} {Q : Vv → Fn2 → Fn2 → Fn2 → Prop} {F A R : Fn2} {c : Cf} {n : Nat} {x : Int} (hR : RS R) (bt : BdX c n F A) (hq : Q (vI (shX (XT A 408) n x)) F A R) : Wp X (k + 1) m_X11_shorter [vA 373, vI x] F A R Q := by
  obtain ⟨T, h74, srt, hr⟩ := bt
  have n60 := T.2.1
  have sp := shX_p srt x
  have lp : ∀ (g i : Nat), i + g = shX (XT A 408) n x → G X k m_X11_shorter Q 2 [vA 373, vI x, vI i] [] F A R := by
    intro g
    induction g with
    | zero =>
      intro i hi
      have e : i = shX (XT A 408) n x := by omega
      rw [← e] at hq sp
      refine b_X11_shorter_2 hR ⟨fun _ => hq, fun h => ?_⟩
      rw [h74] at h
      have ri := hr i (by omega) h
      refine ⟨by omega, by omega, ri.1, ri.2, fun _ => hq, fun hlt => ?_⟩
      have := (sp.2 i (by omega) h).2 (Int.le_refl _)
      have e2 : XT A 408 i = A 408 (A 416 i) := rfl
      omega
    | succ g ih =>
      intro i hi
      have hin : (i : Int) < n := by omega
      have ri := hr i (by omega) hin
      have e2 : XT A 408 i = A 408 (A 416 i) := rfl
      refine b_X11_shorter_2 hR ⟨fun h => absurd (show (i : Int) < F 373 74 by rw [h74]; exact hin) h, fun _ => ⟨by omega, by omega, ri.1, ri.2, fun hge => ?_, fun hlt => ⟨by omega, ih (i + 1) (by omega)⟩⟩⟩
      have := (sp.2 i (by omega) hin).1 (by omega)
      omega
  exact Wp.of [vA 373, vI x, vN] rfl rfl rfl (b_X11_shorter_0 (lp _ 0 (Nat.zero_add _)))
/-- hits among the places a .. b - 1 -/
def hI2 (w : Int → Int) (r : Int) (a b : Nat) (m : Int) : Int := ct (fun j => decide ((a : Int) ≤ j ∧ m - r ≤ w j ∧ w j ≤ m + r)) b
def tt (w : Int → Int) (r i : Int) : Int := max 0 (w i - r)
/-- what has been found for a row, its candidates up to e -/
def RwP (w : Int → Int) (r : Int) (a b : Nat) (e v t : Int) : Prop := 0 ≤ v ∧ v ≤ 60 ∧ 0 ≤ t ∧ t ≤ 999 ∧ (∀ i : Int, (a : Int) ≤ i → i < e → hI2 w r a b (tt w r i) ≤ v) ∧ ((a : Int) < e → ∃ i : Int, (a : Int) ≤ i ∧ i < e ∧ tt w r i = t ∧ hI2 w r a b t = v) ∧ (∀ i : Int, (a : Int) ≤ i → i < e → hI2 w r a b (tt w r i) = v → t ≤ tt w r i) ∧ (e ≤ a → v = 0 ∧ t = 0)
theorem x_wrow {X : Int × (Int → Int)} {k : Nat} {Q : Vv → Fn2 → Fn2 → Fn2 → Prop} {F A R : Fn2} {c : Cf} {n a b : Nat} {r : Int} (hR : RS R) (bt : BdX c n F A) (ab : a ≤ b) (bn : b ≤ n) (r0 : 0 ≤ r) (r1 : r ≤ 999) (hq : ∀ A' v t, A' = st2 (st2 A 412 (61 * (a : Int) + b) v) 413 (61 * (a : Int) + b) t → RwP (XT A 409) r a b b v t → Q vN F A' R) : Wp X (k + 1) m_X11_weighRow [vA 373, vI a, vI b, vI r] F A R Q := by
  obtain ⟨T, h74, srt, hr⟩ := bt
  have n60 := T.2.1
  have wb : ∀ i : Int, 0 ≤ i → i < n → XT A 409 i = A 409 (A 416 i) := fun _ _ _ => rfl
  have lp : ∀ (g i : Nat) (v t : Int) (w7 w8 w9 : Vv), i + g = b → a ≤ i → RwP (XT A 409) r a b i v t → G X k m_X11_weighRow Q 9 [vA 373, vI a, vI b, vI r, vI v, vI t, vI i, w7, w8, w9] [] F A R := by
    intro g
    induction g with
    | zero =>
      intro i v t w7 w8 w9 hi hai hp
      have e : i = b := by omega
      subst e
      exact b_X11_weighRow_9 hR ⟨fun _ => ⟨by omega, by omega, by omega, by omega, fun A1 hA1 A2 hA2 => hq A2 v t (by rw [hA2, hA1]) hp⟩, fun h => absurd h (by omega)⟩
    | succ g ih =>
      intro i v t w7 w8 w9 hi hai hp
      have ri := hr i (by omega) (by omega)
      have wi := T.2.2 i (by omega) (by omega)
      have ew := wb i (by omega) (by omega)
      have t0 : 0 ≤ tt (XT A 409) r i ∧ tt (XT A 409) r i ≤ 999 := by unfold tt; omega
      have hown : 0 < hI2 (XT A 409) r a b (tt (XT A 409) r i) := ct_pos (i := i) b (by omega) (by omega) (decide_eq_true (by unfold tt; omega))
      -- the hits of this candidate
      have l50 : ∀ (g2 j : Nat), j + g2 = b → a ≤ j → G X k m_X11_weighRow Q 50 [vA 373, vI a, vI b, vI r, vI v, vI t, vI i, vI (tt (XT A 409) r i), vI (hI2 (XT A 409) r a j (tt (XT A 409) r i)), vI j] [] F A R := by
        intro g2
        induction g2 with
        | zero =>
          intro j hj haj
          have e : j = b := by omega
          subst e
          have hb := ct_b (fun x => decide ((a : Int) ≤ x ∧ tt (XT A 409) r i - r ≤ XT A 409 x ∧ XT A 409 x ≤ tt (XT A 409) r i + r)) j
          have hv : 0 ≤ hI2 (XT A 409) r a j (tt (XT A 409) r i) ∧ hI2 (XT A 409) r a j (tt (XT A 409) r i) ≤ j := hb
          obtain ⟨p1, p2, p3, p4, p5, p6, p7, p8⟩ := hp
          have keep : hI2 (XT A 409) r a j (tt (XT A 409) r i) ≤ v → (hI2 (XT A 409) r a j (tt (XT A 409) r i) = v → t ≤ tt (XT A 409) r i) → RwP (XT A 409) r a j ((i + 1 : Nat) : Int) v t := fun h1 h2 => by
            have hai' : a < i := by
              by_cases y : a < i
              · exact y
              · have := p8 (by omega); omega
            refine ⟨p1, p2, p3, p4, fun x x0 x1 => ?_, fun _ => ?_, fun x x0 x1 xe => ?_, fun h => by omega⟩
            · by_cases y : x = i
              · rw [y]; exact h1
              · exact p5 x x0 (by omega)
            · obtain ⟨x, x0, x1, x2⟩ := p6 (by omega)
              exact ⟨x, x0, by omega, x2⟩
            · by_cases y : x = i
              · rw [y] at xe ⊢; exact h2 xe
              · exact p7 x x0 (by omega) xe
          have newb : v < hI2 (XT A 409) r a j (tt (XT A 409) r i) ∨ hI2 (XT A 409) r a j (tt (XT A 409) r i) = v ∧ tt (XT A 409) r i < t → RwP (XT A 409) r a j ((i + 1 : Nat) : Int) (hI2 (XT A 409) r a j (tt (XT A 409) r i)) (tt (XT A 409) r i) := fun h => by
            refine ⟨hv.1, by omega, t0.1, t0.2, fun x x0 x1 => ?_, fun _ => ⟨i, by omega, by omega, rfl, rfl⟩, fun x x0 x1 xe => ?_, fun h => by omega⟩
            · by_cases y : x = i
              · rw [y]; exact Int.le_refl _
              · have := p5 x x0 (by omega); omega
            · by_cases y : x = i
              · rw [y]; exact Int.le_refl _
              · have q5 := p5 x x0 (by omega)
                have q7 := p7 x x0 (by omega)
                rcases h with h | h
                · omega
                · have := q7 (by omega); omega
          refine b_X11_weighRow_50 hR ⟨fun _ => ⟨fun h => ⟨by omega, ih (i + 1) v t _ _ _ (by omega) (by omega) (keep (by omega) (by omega))⟩, fun h => ⟨fun hne => ⟨by omega, ih (i + 1) _ _ _ _ _ (by omega) (by omega) (newb (by omega))⟩, fun he => ⟨fun hlt => ⟨by omega, ih (i + 1) _ _ _ _ _ (by omega) (by omega) (newb (by omega))⟩, fun hge => ⟨by omega, ih (i + 1) v t _ _ _ (by omega) (by omega) (keep (by omega) (by omega))⟩⟩⟩⟩, fun h => absurd h (by omega)⟩
        | succ g2 ih2 =>
          intro j hj haj
          have rj := hr j (by omega) (by omega)
          have wj := T.2.2 j (by omega) (by omega)
          have ej := wb j (by omega) (by omega)
          have hb := ct_b (fun x => decide ((a : Int) ≤ x ∧ tt (XT A 409) r i - r ≤ XT A 409 x ∧ XT A 409 x ≤ tt (XT A 409) r i + r)) j
          have hv : 0 ≤ hI2 (XT A 409) r a j (tt (XT A 409) r i) ∧ hI2 (XT A 409) r a j (tt (XT A 409) r i) ≤ j := hb
          have hs : hI2 (XT A 409) r a (j + 1) (tt (XT A 409) r i) = hI2 (XT A 409) r a j (tt (XT A 409) r i) + (if decide ((a : Int) ≤ (j : Int) ∧ tt (XT A 409) r i - r ≤ XT A 409 j ∧ XT A 409 j ≤ tt (XT A 409) r i + r) = true then 1 else 0) := rfl
          have nx := ih2 (j + 1) (by omega) (by omega)
          rw [hs] at nx
          refine b_X11_weighRow_50 hR ⟨fun h => absurd (show (j : Int) < b by omega) h, fun _ => ⟨by omega, by omega, rj.1, rj.2, by omega, ?_⟩⟩
          rw [← ej]
          refine ⟨fun h => ⟨by omega, fun g4 hg4 => ⟨by omega, ?_⟩⟩, fun h => ⟨by omega, fun h' => ⟨by omega, fun g5 hg5 => ⟨by omega, ?_⟩⟩, fun h' => ⟨by omega, fun g6 hg6 => ⟨by omega, ?_⟩⟩⟩⟩
          · subst hg4
            rw [if_neg (by rw [decide_eq_true_iff]; omega)] at nx; exact nx
          · subst hg5
            rw [if_neg (by rw [decide_eq_true_iff]; omega)] at nx; exact nx
          · subst hg6
            rw [if_pos (decide_eq_true (by omega))] at nx; exact nx
      have z50 : hI2 (XT A 409) r a a (tt (XT A 409) r i) = 0 := ct_z a (fun x x0 x1 => by rw [ne_eq, decide_eq_true_iff]; omega)
      have go := l50 (b - a) a (by omega) (Nat.le_refl a)
      rw [z50] at go
      refine b_X11_weighRow_9 hR ⟨fun h => absurd (show (i : Int) < b by omega) h, fun _ => ⟨by omega, by omega, ri.1, ri.2, ?_⟩⟩
      rw [← ew]
      refine ⟨by omega, fun g3 hg3 => ⟨fun h => ?_, fun h => ?_⟩⟩
      · have : g3 = tt (XT A 409) r i := by unfold tt; omega
        rw [this]; exact go
      · have : (0 : Int) = tt (XT A 409) r i := by unfold tt; omega
        rw [this] ; rw [← this] at go ⊢; exact go
  refine Wp.of [vA 373, vI a, vI b, vI r, vN, vN, vN, vN, vN, vN] rfl rfl rfl (b_X11_weighRow_0 (lp (b - a) a 0 0 vN vN vN (by omega) (Nat.le_refl a) ⟨by decide, by decide, by decide, by decide, fun i i0 i1 => absurd i1 (by omega), fun h => absurd h (by omega), fun i i0 i1 => absurd i1 (by omega), fun _ => ⟨rfl, rfl⟩⟩))
/-- a row by its places is a row by its lengths -/
theorem RwP.mt {c : Cf} {n : Nat} {l w : Int → Int} {r x y v t : Int} (T : Tb c n l w) (hs : srtd l n) (r0 : 0 ≤ r) (h : RwP w r (shX l n x) (shX l n (y + 1)) (shX l n (y + 1)) v t) : v = mH c x y r ∧ t = tH c x y r := by
  have sx := shX_p hs x
  have sy := shX_p hs (y + 1)
  have e : ∀ m, hI2 w r (shX l n x) (shX l n (y + 1)) m = cH c x y r m := fun m => by
    rw [T.cHe]
    unfold hI2
    have hP' : ∀ j : Int, 0 ≤ j → j < n → (hP x y r m (l j) (w j) = true ↔ (shX l n x : Int) ≤ j ∧ j < (shX l n (y + 1) : Int) ∧ m - r ≤ w j ∧ w j ≤ m + r) := fun j j0 j1 => by
      have a := sx.2 j j0 j1
      have b := sy.2 j j0 j1
      rw [hP_t]
      omega
    rw [ct_cut (p := fun i => hP x y r m (l i) (w i)) (m := shX l n (y + 1)) n sy.1 (fun i i0 i1 ip => by have := (hP' i (by omega) i1).1 ip; omega)]
    refine ct_e _ (fun i i0 i1 => ?_)
    have := hP' i i0 (by omega)
    by_cases z : hP x y r m (l i) (w i) = true
    · rw [z]; exact decide_eq_true (by have := this.1 z; omega)
    · rw [Bool.not_eq_true] at z
      rw [z]
      refine decide_eq_false (fun q => ?_)
      have := this.2 ⟨q.1, i1, q.2⟩
      rw [this] at z; cases z
  obtain ⟨p1, p2, p3, p4, p5, p6, p7, p8⟩ := h
  by_cases ab : (shX l n x : Int) < shX l n (y + 1)
  · obtain ⟨i, i0, i1, it, iv⟩ := p6 ab
    rw [e] at iv
    have ub : mH c x y r ≤ v := by
      obtain ⟨m, m0, m1, me⟩ := T.mHat x y r
      rw [← me]
      by_cases z : 0 < cH c x y r m
      · obtain ⟨j, j0, j1, ja, jb, jt, jc⟩ := T.down (a := x) (b := y) r0 m0 z
        have q := p5 j ((sx.2 j j0 j1).1 ja) (by
          by_cases z2 : j < (shX l n (y + 1) : Int)
          · exact z2
          · have := (sy.2 j j0 j1).2 (by omega); omega)
        rw [e] at q
        have e2 : tt w r j = max 0 (w j - r) := rfl
        rw [e2] at q
        omega
      · omega
    have lb := T.cHm (a := x) (b := y) (r := r) p3 p4
    have ev : v = mH c x y r := by omega
    refine ⟨ev, (tH_eq T p3 p4 (by omega) (fun m m0 m1 me => ?_)).symm⟩
    have pos : 0 < cH c x y r m := by
      have : 0 < v := by
        rw [← iv, ← it, T.cHe]
        have wi := T.2.2 i (by omega) (by have := sy.1; omega)
        refine ct_pos (i := i) n (by omega) (by have := sy.1; omega) (hP_t.2 ?_)
        have a := (sx.2 i (by omega) (by have := sy.1; omega)).2 i0
        have b : ¬ (y + 1 ≤ l i) := fun q => by have := (sy.2 i (by omega) (by have := sy.1; omega)).1 q; omega
        unfold tt
        omega
      omega
    obtain ⟨j, j0, j1, ja, jb, jt, jc⟩ := T.down (a := x) (b := y) r0 m0 pos
    have jin : j < (shX l n (y + 1) : Int) := by
      by_cases z2 : j < (shX l n (y + 1) : Int)
      · exact z2
      · have := (sy.2 j j0 j1).2 (by omega); omega
    have ax := (sx.2 j j0 j1).1 ja
    have e2 : tt w r j = max 0 (w j - r) := rfl
    have q5 := p5 j ax jin
    have q7 := p7 j ax jin
    rw [e] at q5 q7
    rw [e2] at q5 q7
    have := q7 (by omega)
    omega
  · have z := p8 (by omega)
    have m0 : mH c x y r = 0 := T.mHz (fun i i0 i1 q => by
      have a := (sx.2 i i0 i1).1 q.1
      have b : ¬ (shX l n (y + 1) : Int) ≤ i := fun s => by have := (sy.2 i i0 i1).2 s; omega
      omega)
    refine ⟨by omega, ?_⟩
    have c0 := T.cH0 x y r 0
    have cm := T.cHm (a := x) (b := y) (r := r) (m := 0) (Int.le_refl 0) (by decide)
    rw [z.2]
    exact (tH_eq T (Int.le_refl 0) (by decide) (by omega) (fun m m0 m1 => by omega)).symm
