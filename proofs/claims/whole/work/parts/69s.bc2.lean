/-! THE BOARD, the class: gathering, rows and times, and the two calls -/
abbrev FRg (A A' : Fn2) : Prop := ∀ z, z < 72 ∨ 74 < z → A' z = A z
theorem c_insert {X : Int × (Int → Int)} {k : Nat} {Q : Vv → Fn2 → Fn2 → Fn2 → Prop} {F A R : Fn2} {c : Cf} {n : Nat} {len wt : Int} (hR : RS R) (hT : BdT c n F A) (n60 : n < 60) (l0 : 1 ≤ len) (l1 : len ≤ 99) (w0 : 0 ≤ wt) (w1 : wt ≤ 999) (hq : ∀ F' A', F' = st2 F 71 1 ((n : Int) + 1) → BdT (fun P => c P + (if P len wt = true then 1 else 0)) (n + 1) F' A' → FRg A A' → Q vN F' A' R) : Wp X (k + 1) m_X0_insert [vA 71, vI len, vI wt] F A R Q := by
  obtain ⟨T, hn, srt, hseen⟩ := hT
  have lp : ∀ (a : Nat) (A1 : Fn2), a ≤ n → FRg A A1 → A1 74 = A 74 → (∀ i : Int, i < a → A1 72 i = A 72 i ∧ A1 73 i = A 73 i) → (∀ i : Int, (a : Int) < i → i ≤ n → A1 72 i = A 72 (i - 1) ∧ A1 73 i = A 73 (i - 1)) → (∀ i : Int, (a : Int) ≤ i → i < n → wt < A 73 i) → G X k m_X0_insert Q 5 [vA 71, vI len, vI wt, vI a] [] F A1 R := by
    intro a
    have fin : ∀ (a : Nat) (A1 : Fn2), a ≤ n → FRg A A1 → A1 74 = A 74 → (∀ i : Int, i < a → A1 72 i = A 72 i ∧ A1 73 i = A 73 i) → (∀ i : Int, (a : Int) < i → i ≤ n → A1 72 i = A 72 (i - 1) ∧ A1 73 i = A 73 (i - 1)) → (∀ i : Int, (a : Int) ≤ i → i < n → wt < A 73 i) → (∀ i : Int, 0 ≤ i → i < a → A 73 i ≤ wt) → (0 ≤ (a : Int) ∧ (a : Int) < 60 ∧ (∀ A2 : Fn2, A2 = st2 A1 73 a wt → ∀ A3 : Fn2, A3 = st2 A2 72 a len → (0 ≤ len ∧ len < 100 ∧ (∀ A4 : Fn2, A4 = st2 A3 74 len 1 → ((-2147483648 ≤ F 71 1 + 1 ∧ F 71 1 + 1 ≤ 2147483647) ∧ (∀ F4 : Fn2, F4 = st2 F 71 1 (F 71 1 + 1) → Q vN F4 A4 R)))))) := by
      intro a A1 ha f1 f74 hlo hhi hgt hle
      refine ⟨by omega, by omega, fun A2 hA2 A3 hA3 => ⟨by omega, by omega, fun A4 hA4 => ?_⟩⟩
      rw [hn]
      refine ⟨by omega, fun F4 hF4 => hq F4 A4 hF4 ?_ (fun z hz => by rw [hA4, st2_n (by omega), hA3, st2_n (by omega), hA2, st2_n (by omega)]; exact f1 z hz)⟩
      have e72 : A4 72 = u1 (A1 72) a len := by rw [hA4, st2_n (by decide), hA3, st2_s, hA2, st2_n (by decide)]
      have e73 : A4 73 = u1 (A1 73) a wt := by rw [hA4, st2_n (by decide), hA3, st2_n (by decide), hA2, st2_s]
      have e74 : A4 74 = u1 (A 74) len 1 := by rw [hA4, st2_s, hA3, st2_n (by decide), hA2, st2_n (by decide), f74]
      have lo : ∀ i : Int, i < a → A4 72 i = A 72 i ∧ A4 73 i = A 73 i := fun i hi => by rw [e72, e73, u1_n (by omega), u1_n (by omega)]; exact hlo i hi
      have at' : A4 72 a = len ∧ A4 73 a = wt := by rw [e72, e73, u1_s, u1_s]; exact ⟨rfl, rfl⟩
      have hi' : ∀ i : Int, (a : Int) < i → i ≤ n → A4 72 i = A 72 (i - 1) ∧ A4 73 i = A 73 (i - 1) := fun i i0 i1 => by rw [e72, e73, u1_n (by omega), u1_n (by omega)]; exact hhi i i0 i1
      refine ⟨⟨funext fun P => ?_, by omega, fun i i0 i1 => ?_⟩, by rw [hF4, st2_s, u1_s]; omega, fun i j i0 ij j1 => ?_, fun x x0 x1 => ?_⟩
      · have e1 := ct_ins (p := fun i => P (A 72 i) (A 73 i)) (f := fun i => if i < (a : Int) then P (A 72 i) (A 73 i) else if i = a then P len wt else P (A 72 (i - 1)) (A 73 (i - 1))) (x := P len wt) (a := a) (fun i hi => if_pos hi) (by show (if (a : Int) < a then _ else if (a : Int) = a then P len wt else _) = P len wt; rw [if_neg (by omega), if_pos rfl]) (fun i hi => by show (if i < (a : Int) then _ else if i = (a : Int) then _ else _) = _; rw [if_neg (by omega), if_neg (by omega)]) n ha
        rw [T.1]
        show ct (fun i => P (A 72 i) (A 73 i)) n + (if P len wt = true then 1 else 0) = ct (fun i => P (A4 72 i) (A4 73 i)) (n + 1)
        rw [← e1]
        refine ct_e (n + 1) (fun i i0 i1 => ?_)
        show (if i < (a : Int) then P (A 72 i) (A 73 i) else if i = a then P len wt else P (A 72 (i - 1)) (A 73 (i - 1))) = P (A4 72 i) (A4 73 i)
        by_cases y : i < a
        · rw [if_pos y, (lo i y).1, (lo i y).2]
        · rw [if_neg y]
          by_cases z : i = a
          · rw [if_pos z, z, at'.1, at'.2]
          · rw [if_neg z, (hi' i (by omega) (by omega)).1, (hi' i (by omega) (by omega)).2]
      · by_cases y : i < a
        · rw [(lo i y).1, (lo i y).2]; exact T.2.2 i i0 (by omega)
        · by_cases z : i = a
          · rw [z, at'.1, at'.2]; exact ⟨l0, l1, w0, w1⟩
          · rw [(hi' i (by omega) (by omega)).1, (hi' i (by omega) (by omega)).2]; exact T.2.2 (i - 1) (by omega) (by omega)
      · by_cases yj : j < a
        · rw [(lo i (by omega)).2, (lo j yj).2]; exact srt i j i0 ij (by omega)
        · by_cases zj : j = a
          · rw [zj, at'.2]
            by_cases yi : i < a
            · rw [(lo i yi).2]; exact hle i i0 yi
            · rw [show i = (a : Int) by omega, at'.2]; exact Int.le_refl _
          · rw [(hi' j (by omega) (by omega)).2]
            by_cases yi : i < a
            · rw [(lo i yi).2]; exact srt i (j - 1) i0 (by omega) (by omega)
            · by_cases zi : i = a
              · rw [zi, at'.2]; have := hgt (j - 1) (by omega) (by omega); omega
              · rw [(hi' i (by omega) (by omega)).2]; exact srt (i - 1) (j - 1) (by omega) (by omega) (by omega)
      · rw [e74]
        by_cases e : x = len
        · subst e
          rw [u1_s]
          exact ⟨fun _ => ⟨a, by omega, by omega, at'.1⟩, fun _ => by decide⟩
        · rw [u1_n e, hseen x x0 x1]
          refine ⟨fun ⟨i, i0, i1, ix⟩ => ?_, fun ⟨i, i0, i1, ix⟩ => ?_⟩
          · by_cases y : i < a
            · exact ⟨i, i0, by omega, by rw [(lo i y).1]; exact ix⟩
            · exact ⟨i + 1, by omega, by omega, by rw [(hi' (i + 1) (by omega) (by omega)).1, show i + 1 - 1 = i by omega]; exact ix⟩
          · by_cases y : i < a
            · exact ⟨i, i0, by omega, by rw [← (lo i y).1]; exact ix⟩
            · by_cases z : i = a
              · rw [z, at'.1] at ix; exact absurd ix.symm e
              · exact ⟨i - 1, by omega, by omega, by rw [← (hi' i (by omega) (by omega)).1]; exact ix⟩
    induction a with
    | zero =>
      intro A1 ha f1 f74 hlo hhi hgt
      exact b_X0_insert_5 hR ⟨fun _ => fin 0 A1 ha f1 f74 hlo hhi hgt (fun i i0 i1 => absurd i1 (by omega)), fun h => absurd h (by decide)⟩
    | succ a ih =>
      intro A1 ha f1 f74 hlo hhi hgt
      have e1 : ((a + 1 : Nat) : Int) - 1 = a := by omega
      refine b_X0_insert_5 hR ⟨fun h => absurd (show (0 : Int) < ((a + 1 : Nat) : Int) by omega) h, fun _ => ?_⟩
      rw [e1]
      have ea := hlo a (by omega)
      rw [ea.2]
      refine ⟨by omega, by omega, by omega, fun hnlt => fin (a + 1) A1 ha f1 f74 hlo hhi hgt (fun i i0 i1 => ?_), fun hlt => ⟨by omega, by omega, fun A9 hA9 A10 hA10 => ⟨by omega, ?_⟩⟩⟩
      · have := srt i a i0 (by omega) (by omega); omega
      · have e72 : A9 72 a = A 72 a := by rw [hA9, st2_n (by decide)]; exact ea.1
        rw [e72] at hA10
        rw [show ((a + 1 : Nat) : Int) + -1 = (a : Int) by omega]
        have f72 : A10 72 = u1 (A1 72) (a + 1 : Nat) (A 72 a) := by rw [hA10, st2_s, hA9, st2_n (by decide)]
        have f73 : A10 73 = u1 (A1 73) (a + 1 : Nat) (A 73 a) := by rw [hA10, st2_n (by decide), hA9, st2_s]
        refine ih A10 (by omega) (fun z hz => by rw [hA10, st2_n (by omega), hA9, st2_n (by omega)]; exact f1 z hz) (by rw [hA10, st2_n (by decide), hA9, st2_n (by decide)]; exact f74) (fun i hi => ?_) (fun i i0 i1 => ?_) (fun i i0 i1 => ?_)
        · rw [f72, f73, u1_n (by omega), u1_n (by omega)]; exact hlo i (by omega)
        · rw [f72, f73]
          by_cases e : i = ((a + 1 : Nat) : Int)
          · subst e; rw [u1_s, u1_s, e1]; exact ⟨rfl, rfl⟩
          · rw [u1_n e, u1_n e]; exact hhi i (by omega) i1
        · by_cases e : i = a
          · rw [e]; exact hlt
          · exact hgt i (by omega) i1
  refine Wp.of [vA 71, vI len, vI wt, vN] rfl rfl rfl (b_X0_insert_0 fun g1 hg1 => ?_)
  rw [hn] at hg1
  subst hg1
  exact lp n A (Nat.le_refl n) (fun _ _ => rfl) rfl (fun _ _ => ⟨rfl, rfl⟩) (fun i i0 i1 => by omega) (fun i i0 i1 => by omega)
/-- the sights as the class holds them -/
def SiI (σ : Sg) (F A : Fn2) : Prop := F 66 1 = σ.1 0 6 ∧ (0 ≤ σ.1 0 6 ∧ σ.1 0 6 ≤ 60) ∧ ∀ i, 0 ≤ i → i < σ.1 0 6 → (A 67 i = σ.1 2 i ∧ A 68 i = σ.1 3 i ∧ A 69 i = σ.1 4 i ∧ A 70 i = σ.1 5 i) ∧ 1 ≤ σ.1 2 i ∧ σ.1 2 i ≤ 99 ∧ 0 ≤ σ.1 3 i ∧ σ.1 3 i ≤ 999 ∧ -1 ≤ σ.1 5 i
theorem CB.si {σ : Sg} {q : Int → Int} {l : Int} {F A R : Fn2} (hS : SgI σ) (hB : CB σ q l F A R) : SiI σ F A := by
  obtain ⟨h1, h2, h3, h4, h5, h6, h7, h8, h9, h10, h11, h12, h13, ⟨h14, h15, h16⟩, h17⟩ := hB
  obtain ⟨s1, s2, s3, s4, s5, s6, s7, s8, s9⟩ := hS
  refine ⟨h15, s4, fun i i0 i1 => ⟨h16 i i0 i1, ?_⟩⟩
  have := s9 i i0 i1
  omega
theorem SiI.e {σ : Sg} {F A F' A' : Fn2} (h : SiI σ F A) (h1 : F' 66 1 = F 66 1) (h2 : ∀ z, 67 ≤ z → z ≤ 70 → A' z = A z) : SiI σ F' A' := by
  refine ⟨by rw [h1]; exact h.1, h.2.1, fun i i0 i1 => ?_⟩
  rw [h2 67 (by decide) (by decide), h2 68 (by decide) (by decide), h2 69 (by decide) (by decide), h2 70 (by decide) (by decide)]
  exact h.2.2 i i0 i1
theorem knS_t {σ : Sg} {k i : Int} : knS σ k i = true ↔ σ.1 4 i ≤ k ∧ (σ.1 5 i < 0 ∨ k < σ.1 5 i) := decide_eq_true_iff
theorem c_known {X : Int × (Int → Int)} {k : Nat} {Q : Vv → Fn2 → Fn2 → Fn2 → Prop} {F A R : Fn2} {σ : Sg} {i kk : Int} (hR : RS R) (hI : SiI σ F A) (i0 : 0 ≤ i) (i1 : i < σ.1 0 6) (h1 : knS σ kk i = true → Q (vI 1) F A R) (h0 : ¬ knS σ kk i = true → Q (vI 0) F A R) : Wp X (k + 1) m_X6_isKnown [vA 66, vI i, vI kk] F A R Q := by
  obtain ⟨a1, a2, a3⟩ := hI
  obtain ⟨⟨b1, b2, b3, b4⟩, b5⟩ := a3 i i0 i1
  refine Wp.of [vA 66, vI i, vI kk] rfl rfl rfl (b_X6_isKnown_0 hR ?_)
  rw [b3, b4]
  refine ⟨i0, by omega, fun h => h0 (fun z => by have := knS_t.1 z; omega), fun h => ⟨fun e => h1 (knS_t.2 (by omega)), fun e => ⟨fun g => h0 (fun z => by have := knS_t.1 z; omega), fun g => h1 (knS_t.2 (by omega))⟩⟩⟩
theorem cfS_s {σ : Sg} {kk : Int} {m : Nat} : cfS σ kk (m + 1) = fun P => cfS σ kk m P + (if knS σ kk m = true then (if P (σ.1 2 m) (σ.1 3 m) = true then 1 else 0) else 0) := by
  funext P
  show ct _ (m + 1) = _
  rw [ct_s]
  show cfS σ kk m P + (if (knS σ kk m && P (σ.1 2 m) (σ.1 3 m)) = true then 1 else 0) = _
  by_cases e : knS σ kk m = true
  · rw [if_pos e, e, Bool.true_and]
  · rw [if_neg e, if_neg (fun z => by rw [Bool.and_eq_true] at z; exact e z.1)]
theorem Tb.all {c : Cf} {n : Nat} {l w : Int → Int} (T : Tb c n l w) : c (fun _ _ => true) = n := by
  rw [T.1]
  show ct (fun _ => true) n = n
  have : ∀ m : Nat, ct (fun _ => true) m = m := fun m => by
    induction m with
    | zero => rfl
    | succ m ih => rw [ct_s, ih]; show (m : Int) + 1 = ((m + 1 : Nat) : Int); omega
  exact this n
theorem c_gather {X : Int × (Int → Int)} {k : Nat} {Q : Vv → Fn2 → Fn2 → Fn2 → Prop} {F A R : Fn2} {σ : Sg} {kk : Int} (hR : RS R) (hI : SiI σ F A) (h5 : F 71 5 = kk) (hq : ∀ F' A' (n : Nat), BdT (cfA σ kk) n F' A' → FRg A A' → (∀ a f, a ≠ 71 ∨ f ≠ 1 → F' a f = F a f) → Q vN F' A' R) : Wp X (k + 2) m_X0_gather [vA 71, vA 66] F A R Q := by
  have hn := hI.2.1
  have lp : ∀ (g m : Nat) (n : Nat) (F1 A1 : Fn2), (m : Int) + g = σ.1 0 6 → n ≤ m → BdT (cfS σ kk m) n F1 A1 → FRg A A1 → (∀ a f, a ≠ 71 ∨ f ≠ 1 → F1 a f = F a f) → G X (k + 1) m_X0_gather Q 28 [vA 71, vA 66, vI m] [] F1 A1 R := by
    intro g
    induction g with
    | zero =>
      intro m n F1 A1 hm hnm bt f1 x1
      refine b_X0_gather_28 ⟨fun _ => hq F1 A1 n ?_ f1 x1, fun h => absurd h (by rw [x1 66 1 (by omega), hI.1]; omega)⟩
      show BdT (cfS σ kk (σ.1 0 6).toNat) n F1 A1
      rw [show (σ.1 0 6).toNat = m by omega]; exact bt
    | succ g ih =>
      intro m n F1 A1 hm hnm bt f1 x1
      have I1 : SiI σ F1 A1 := hI.e (x1 66 1 (by omega)) (fun z z0 z1 => f1 z (by omega))
      refine b_X0_gather_28 ⟨fun h => absurd (show (m : Int) < F1 66 1 by rw [I1.1]; omega) h, fun _ => ?_⟩
      rw [x1 71 5 (by omega), h5]
      have bb := I1.2.2 m (by omega) (by omega)
      refine c_known (k := k) hR I1 (by omega) (by omega) (fun hk => b_X0_gather_45 hR ⟨fun h => absurd h (by decide), fun _ => ⟨by omega, by omega, ?_⟩⟩) (fun hk => b_X0_gather_45 hR ⟨fun _ => b_X0_gather_64 ⟨by omega, ?_⟩, fun h => absurd rfl h⟩)
      · rw [bb.1.1, bb.1.2.1]
        refine c_insert (k := k) hR bt (by omega) bb.2.1 bb.2.2.1 bb.2.2.2.1 bb.2.2.2.2.1 (fun F2 A2 hF2 bt2 f2 => b_X0_gather_64 ⟨by omega, ?_⟩)
        refine ih (m + 1) (n + 1) F2 A2 (by omega) (by omega) ?_ (fun z hz => (f2 z hz).trans (f1 z hz)) (fun a f hx => ?_)
        · rw [cfS_s]
          simp only [hk, if_true]
          exact bt2
        · rw [hF2]
          by_cases e : a = 71
          · subst e; rw [st2_s, u1_n (by omega)]; exact x1 71 f hx
          · rw [st2_n e]; exact x1 a f hx
      · refine ih (m + 1) n F1 A1 (by omega) (by omega) ?_ f1 x1
        have e : cfS σ kk (m + 1) = cfS σ kk m := by
          rw [cfS_s]; funext P; rw [if_neg hk]; omega
        rw [e]; exact bt
  refine Wp.of (k := k + 1) [vA 71, vA 66, vN] rfl rfl rfl (b_X0_gather_0 fun F1 hF1 => ?_)
  have x1 : ∀ a f, a ≠ 71 ∨ f ≠ 1 → F1 a f = F a f := fun a f hx => by
    rw [hF1]
    by_cases e : a = 71
    · subst e; rw [st2_s, u1_n (by omega)]
    · rw [st2_n e]
  have cl : ∀ (g i : Nat) (A1 : Fn2), i + g = 100 → (∀ z, z ≠ 74 → A1 z = A z) → (∀ x : Int, 0 ≤ x → x < i → A1 74 x = 0) → G X (k + 1) m_X0_gather Q 7 [vA 71, vA 66, vI i] [] F1 A1 R := by
    intro g
    induction g with
    | zero =>
      intro i A1 hi f1 hz
      refine b_X0_gather_7 hR ⟨fun _ => lp (σ.1 0 6).toNat 0 0 F1 A1 (by omega) (Nat.le_refl 0) ⟨⟨rfl, by decide, fun i i0 i1 => absurd i1 (by omega)⟩, by rw [hF1, st2_s, u1_s]; rfl, fun i j i0 ij j1 => absurd j1 (by omega), fun x x0 x1 => ⟨fun h => absurd (hz x x0 (by omega)) h, fun ⟨i, i0, i1, _⟩ => absurd i1 (by omega)⟩⟩ (fun z hz' => f1 z (by omega)) x1, fun h => absurd (show (99 : Int) < i by omega) h⟩
    | succ g ih =>
      intro i A1 hi f1 hz
      refine b_X0_gather_7 hR ⟨fun h => absurd h (by omega), fun _ => ⟨by omega, by omega, fun A2 hA2 => ⟨by omega, ih (i + 1) A2 (by omega) (fun z hz' => by rw [hA2, st2_n hz']; exact f1 z hz') (fun x x0 x1 => ?_)⟩⟩⟩
      rw [hA2, st2_s]
      by_cases e : x = i
      · subst e; rw [u1_s]
      · rw [u1_n e]; exact hz x x0 (by omega)
  exact cl 100 0 A rfl (fun _ _ => rfl) (fun x x0 x1 => absurd x1 (by omega))
theorem c_fend {X : Int × (Int → Int)} {k : Nat} {Q : Vv → Fn2 → Fn2 → Fn2 → Prop} {F A R : Fn2} {c : Cf} {n left rows : Nat} {r a : Int} (hR : RS R) (hT : BdT c n F A) (hH : HtI c r A) (hB : BhI c r rows A) (l1 : 1 ≤ left) (l2 : left ≤ rows) (l4 : rows ≤ 4) (a0 : 1 ≤ a) (a1 : a + left ≤ 100) (hq : Q (vI (en c r left a)) F A R) : Wp X (k + 1) m_X0_findEnd [vA 71, vI a, vI left] F A R Q := by
  have T := hT.1
  have n60 := T.2.1
  refine Wp.of [vA 71, vI a, vI left, vN, vN] rfl rfl rfl (b_X0_findEnd_0 ⟨by omega, fun g1 hg1 => ?_⟩)
  subst hg1
  unfold en at hq
  refine ⟨fun h2 => ?_, fun h2 => ?_⟩
  · rw [if_neg (by omega)] at hq
    have lp : ∀ (g : Nat) (x : Int), a ≤ x → x + g = 100 - left → Q (vI (fstI (fun to => decide (mH c a to r + bS c r (left - 1) (to + 1) = bS c r left a)) g x)) F A R → G X k m_X0_findEnd Q 15 [vA 71, vI a, vI left, vI (100 - (left : Int)), vI x] [] F A R := by
      intro g
      induction g with
      | zero =>
        intro x x0 xg hqx
        refine b_X0_findEnd_15 hR ⟨fun _ => ?_, fun h => absurd h (by omega)⟩
        have : (100 - (left : Int)) = x := by omega
        rw [this]; exact hqx
      | succ g ih =>
        intro x x0 xg hqx
        have e1 := hH a x a0 x0 (by omega)
        have e2 := hB (left - 1) (by omega) (by omega) (x + 1) (by omega) (by omega)
        have e3 := hB left l1 l2 a a0 a1
        have b1 := T.mH0 a x r
        have b2 := T.bS0 r (left - 1) (x + 1)
        have ez : (177 : Int) + ((left : Int) - 1) = 177 + ((left - 1 : Nat) : Int) := by omega
        refine b_X0_findEnd_15 hR ⟨fun h => absurd (show x < 100 - (left : Int) by omega) h, fun _ => ?_⟩
        rw [ez, e1, e2, e3]
        have hqx' : Q (vI (if decide (mH c a x r + bS c r (left - 1) (x + 1) = bS c r left a) = true then x else fstI (fun to => decide (mH c a to r + bS c r (left - 1) (to + 1) = bS c r left a)) g (x + 1))) F A R := hqx
        refine ⟨by omega, by omega, by omega, by omega, by omega, by omega, by omega, by omega, by omega, by omega, by omega, by omega, by omega, by omega, fun hne => ?_, fun heq => ?_⟩
        · rw [if_neg (by rw [decide_eq_true_iff]; exact hne)] at hqx'
          exact ih (x + 1) (by omega) (by omega) hqx'
        · rw [if_pos (decide_eq_true heq)] at hqx'
          exact hqx'
    exact lp (100 - (left : Int) - a).toNat a (Int.le_refl a) (by omega) hq
  · rw [if_pos (by omega)] at hq
    have : (100 - (left : Int)) = 99 := by omega
    rw [this]; exact hq
