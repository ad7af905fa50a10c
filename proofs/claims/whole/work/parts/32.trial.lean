/-! THE CLASS'S TRIAL: what a course that is only tried throws -/
theorem thr_2 {P : Fn2} {many : Int} : ∀ (f : Nat) (u : Int) (s : Fn2), thrS P many f u s 2 = s 2
  | 0, _, _ => rfl
  | f + 1, u, s => by
    unfold thrS
    split
    · rfl
    · dsimp only
      rw [thr_2 f]
      have h : ∀ (c : Prop) [Decidable c] (x y : Fn2), x 2 = s 2 → y 2 = s 2 → (if c then x else y) 2 = s 2 := by
        intro c _ x y hx hy; split <;> assumption
      apply h
      · rw [gvS_r (by decide) (by decide)]; simp only [ne_eq, Int.add_right_inj, Int.reduceEq, not_false_eq_true, st2_n, st2_s, u1_s, u1_u1]; rw [tkS_r (by decide) (by decide)]; simp only [ne_eq, Int.add_right_inj, Int.reduceEq, not_false_eq_true, st2_n, st2_s, u1_s, u1_u1]
      · simp only [ne_eq, Int.add_right_inj, Int.reduceEq, not_false_eq_true, st2_n, st2_s, u1_s, u1_u1]; rw [tkS_r (by decide) (by decide)]; simp only [ne_eq, Int.add_right_inj, Int.reduceEq, not_false_eq_true, st2_n, st2_s, u1_s, u1_u1]
theorem lp_2 {f : Int → Fn2 → Fn2} (h : ∀ i s, f i s 2 = s 2) : ∀ (n : Nat) (i : Int) (s : Fn2), lp f n i s 2 = s 2
  | 0, _, _ => rfl
  | n + 1, i, s => (lp_2 h n (i + 1) (f i s)).trans (h i s)
theorem lpd_2 {f : Int → Fn2 → Fn2} (h : ∀ i s, f i s 2 = s 2) : ∀ (n : Nat) (s : Fn2), lpd f n s 2 = s 2
  | 0, _ => rfl
  | n + 1, s => (lpd_2 h n (f n s)).trans (h n s)
theorem tick_2 {P s : Fn2} {L : Nat → Lw4} {cw jn lr lg : Int} : tickA P L cw jn lr lg s 2 = s 2 := by
  have h1 : ∀ s, ledA P lr lg s 2 = s 2 := by
    intro s; unfold ledA; split
    · exact tkS_r (by decide) (by decide)
    · rfl
  have h2 : ∀ s, poolA P s 2 = s 2 := fun s => lp_2 (fun i s => by
    unfold poolS; split
    · simp only [ne_eq, Int.add_right_inj, Int.reduceEq, not_false_eq_true, st2_n, st2_s, u1_s, u1_u1]; exact tkS_r (by decide) (by decide)
    · rfl) _ _ _
  have h3 : ∀ s, spoutA P L s 2 = s 2 := fun s => lpd_2 (fun i s => by
    unfold stmS; rw [thr_2]; simp only [ne_eq, Int.add_right_inj, Int.reduceEq, not_false_eq_true, st2_n, st2_s, u1_s, u1_u1]) _ _
  have h4 : ∀ s, joinA P jn s 2 = s 2 := by
    intro s; unfold joinA; split
    · rfl
    · refine lp_2 (fun i s => ?_) _ _ _
      unfold joinS; rw [gvS_r (by decide) (by decide), tkS_r (by decide) (by decide)]
  have h5 : ∀ s, fillA P L cw s 2 = s 2 := fun s => lp_2 (fun i s => by
    unfold fillS; simp only [ne_eq, Int.add_right_inj, Int.reduceEq, not_false_eq_true, st2_n, st2_s, u1_s, u1_u1]) _ _ _
  unfold tickA tick0
  rw [h1, h2, h3, h4, h5]
  simp only [ne_eq, Int.add_right_inj, Int.reduceEq, not_false_eq_true, st2_n, st2_s, u1_s, u1_u1]
theorem it_2 {P s : Fn2} {L : Nat → Lw4} {cw jn lr lg : Int} : ∀ n, itS (tickA P L cw jn lr lg) n s 2 = s 2
  | 0 => rfl
  | n + 1 => tick_2.trans (it_2 n)
/-- the water and the warmth of two states are the same -/
def wh8 (z z' : Fn2) : Prop := ∀ r, 0 ≤ r → r < 8 → z 0 r = z' 0 r ∧ z 1 r = z' 1 r
theorem it_cong {P s s' : Fn2} {L : Nat → Lw4} {cw jn lr lg : Int} (hP : WFP P) (h : SEq False False P s s') : ∀ n, SEq False False P (itS (tickA P L cw jn lr lg) n s) (itS (tickA P L cw jn lr lg) n s')
  | 0 => h
  | n + 1 => (tick_cong hP PEq.refl (it_cong hP h n)).weak (fun x => x.elim) id
theorem it_T {P s s' : Fn2} {L : Nat → Lw4} {cw jn lr lg : Int} (hP : WFP P) (h : SEq False False P s s') {n : Nat} (hn : 1 ≤ n) : itS (tickA P L cw jn lr lg) n s 9 15 = itS (tickA P L cw jn lr lg) n s' 9 15 := by
  match n, hn with
  | m + 1, _ => exact (tick_cong hP PEq.refl (it_cong hP h m)).2.2.1 trivial
/-- all comes again: what is thrown comes again -/
theorem it_ring {P s : Fn2} {L : Nat → Lw4} {cw jn lr lg : Int} {a b : Nat} (hP : WFP P) (hab : a < b) (h : wh8 (itS (tickA P L cw jn lr lg) a s) (itS (tickA P L cw jn lr lg) b s)) {t : Nat} (ht : b < t) : itS (tickA P L cw jn lr lg) t s 9 15 = itS (tickA P L cw jn lr lg) (t - (b - a)) s 9 15 := by
  have hs : SEq False False P (itS (tickA P L cw jn lr lg) a s) (itS (tickA P L cw jn lr lg) b s) := ⟨h, fun r _ _ => by rw [it_2, it_2], fun x => x.elim, fun x => x.elim⟩
  have := it_T (L := L) (cw := cw) (jn := jn) (lr := lr) (lg := lg) hP hs (n := t - b) (by omega)
  rw [← itS_add, ← itS_add] at this
  rw [show t - b + b = t by omega, show t - b + a = t - (b - a) by omega] at this
  exact this.symm
def TX (l : Int) (F A F' A' : Fn2) : Prop := (∀ a, ¬ (46 ≤ a ∧ a ≤ 57) → a ≠ l + 4 → A' a = A a) ∧ ∀ x f, x ≠ 28 ∨ f < 15 ∨ 18 < f → F' x f = F x f
theorem TX.refl {l : Int} {F A : Fn2} : TX l F A F A := ⟨fun _ _ _ => rfl, fun _ _ _ => rfl⟩
theorem TX.trans {l : Int} {F A F1 A1 F2 A2 : Fn2} (h : TX l F A F1 A1) (g : TX l F1 A1 F2 A2) : TX l F A F2 A2 :=
  ⟨fun a h1 h2 => (g.1 a h1 h2).trans (h.1 a h1 h2), fun x f h1 => (g.2 x f h1).trans (h.2 x f h1)⟩
theorem FX.tx {l : Int} {F A F' A' : Fn2} (h : FX 28 l F A F' A') : TX l F A F' A' := ⟨fun a h1 h2 => h.1 a (by omega) h2, h.2⟩
theorem dj_S28 {q : Int} (hq : At_Spring q) : q ≠ 28 ∧ (q + 11 < 46 ∨ 57 < q) := by
  unfold At_Spring at hq; omega
theorem dj_L28 {l : Int} (hl : At_Laws l) : l + 4 < 46 ∨ 57 < l := by
  unfold At_Laws at hl; omega
theorem FE.tx {q l : Int} {P F A F' A' R : Fn2} {C : Nat → Option (List Int)} (h : FE 28 q l P C F A R) (x : TX l F A F' A') : FE 28 q l P C F' A' R := by
  obtain ⟨a1, a2, a3, a4, ⟨a5, a6, a7⟩, a8⟩ := h
  have d1 := dj_S28 a2
  have d2 := dj_L28 a4
  have d3 := dj_SL a2 a4
  refine ⟨a1, a2, a3, a4, ⟨fun i h1 h2 => ?_, ?_, ?_⟩, a8.of ?_ ?_ ?_⟩
  · rw [x.1 _ (by omega) (by omega)]; exact a5 i h1 h2
  · rw [x.2 _ _ (Or.inl d1.1)]; exact a6
  · rw [x.2 _ _ (Or.inl d1.1)]; exact a7
  · exact x.1 _ (by omega) (by omega)
  · exact x.1 _ (by omega) (by omega)
  · exact x.1 _ (by omega) (by omega)
theorem w_setMark {X : Int × (Int → Int)} {k : Nat} {Q : Vv → Fn2 → Fn2 → Fn2 → Prop} {F A R : Fn2} (hR : RS R) (hq : ∀ A', A' 56 = cpy (A 46) (A 56) 0 0 8 → A' 57 = cpy (A 47) (A 57) 0 0 8 → (∀ a, a ≠ 56 → a ≠ 57 → A' a = A a) → Q vN F A' R) : Wp X (k + 1) m_X9_setMark [vA 27] F A R Q := by
  refine Wp.of [vA 27] rfl rfl rfl (b_X9_setMark_0 hR fun A1 h1 A2 h2 => hq A2 ?_ ?_ ?_)
  · rw [h2, up2_n (by decide), h1, up2_s]; rfl
  · rw [h2, up2_s, h1, up2_n (by decide), up2_n (by decide)]; rfl
  · intro a h3 h4
    rw [h2, up2_n h4, h1, up2_n h3]
theorem w_atMarkL {X : Int × (Int → Int)} {k : Nat} {Q : Vv → Fn2 → Fn2 → Fn2 → Prop} {R : Fn2} {F A : Fn2} (hR : RS R) (hq : (∀ r, 0 ≤ r → r < 8 → A 46 r = A 56 r ∧ A 47 r = A 57 r) → Q (vI 1) F A R) (hq' : ¬ (∀ r, 0 ≤ r → r < 8 → A 46 r = A 56 r ∧ A 47 r = A 57 r) → Q (vI 0) F A R) : ∀ (m : Nat) (j : Int), 0 ≤ j → j + m = 8 → (∀ r, 0 ≤ r → r < j → A 46 r = A 56 r ∧ A 47 r = A 57 r) → G X k m_X9_isAtMark Q 2 [vA 27, vI j] [] F A R
  | 0, j, hj, hm, ha => b_X9_isAtMark_2 hR ⟨fun _ => hq fun r a b => ha r a (by omega), fun hx => absurd hx (by omega)⟩
  | m + 1, j, hj, hm, ha => by
    refine b_X9_isAtMark_2 hR ⟨fun hx => by omega, fun _ => ⟨hj, by omega, fun hx => hq' fun h => hx (h j hj (by omega)).1, fun hx => ⟨fun hx2 => ⟨by omega, ?_⟩, fun hx2 => hq' fun h => hx2 (h j hj (by omega)).2⟩⟩⟩
    refine w_atMarkL hR hq hq' m (j + 1) (by omega) (by omega) fun r a b => ?_
    by_cases e : r = j
    · subst e; exact ⟨hx, hx2⟩
    · exact ha r a (by omega)
theorem w_atMark {X : Int × (Int → Int)} {k : Nat} {Q : Vv → Fn2 → Fn2 → Fn2 → Prop} {F A R : Fn2} (hR : RS R) (hq : (∀ r, 0 ≤ r → r < 8 → A 46 r = A 56 r ∧ A 47 r = A 57 r) → Q (vI 1) F A R) (hq' : ¬ (∀ r, 0 ≤ r → r < 8 → A 46 r = A 56 r ∧ A 47 r = A 57 r) → Q (vI 0) F A R) : Wp X (k + 1) m_X9_isAtMark [vA 27] F A R Q :=
  Wp.of [vA 27, vN] rfl rfl rfl (b_X9_isAtMark_0 (w_atMarkL hR hq hq' 8 0 (by omega) (by omega) fun r a b => by omega))
theorem w_repeatL {X : Int × (Int → Int)} {k : Nat} {Q : Vv → Fn2 → Fn2 → Fn2 → Prop} {R : Fn2} {F A : Fn2} {ring known n : Int} (hR : RS R) (hr : 1 ≤ ring) (hrk : ring ≤ known) (hk : 0 ≤ known) (hn : n ≤ 1000) {g : Int → Int} (hg : ∀ s, known < s → s ≤ n → g s = g (s - ring)) (hq : ∀ A', (∀ s, 0 ≤ s → s ≤ n → known < s → A' 55 s = g s) → (∀ s, s ≤ known → A' 55 s = A 55 s) → (∀ a, a ≠ 55 → A' a = A a) → Q vN F A' R) : ∀ (m : Nat) (s : Int) (A1 : Fn2), known < s → n < s + m → (∀ x, known - ring < x → x < s → A1 55 x = g x) → (∀ x, x ≤ known → A1 55 x = A 55 x) → (∀ a, a ≠ 55 → A1 a = A a) → G X k m_X9_repeat Q 5 [vA 27, vI ring, vI known, vI n, vI s] [] F A1 R
  | 0, s, A1, hs, hm, h1, h2, h3 => b_X9_repeat_5 hR ⟨fun _ => hq A1 (fun x a b c => h1 x (by omega) (by omega)) h2 h3, fun hx => absurd (show n < s by omega) hx⟩
  | m + 1, s, A1, hs, hm, h1, h2, h3 => by
    refine b_X9_repeat_5 hR ⟨fun _ => hq A1 (fun x a b c => h1 x (by omega) (by omega)) h2 h3, fun hx => ⟨by omega, by omega, by omega, by omega, by omega, fun A2 hA2 => ⟨by omega, ?_⟩⟩⟩
    refine w_repeatL hR hr hrk hk hn hg hq m (s + 1) A2 (by omega) (by omega) (fun x a b => ?_) (fun x a => ?_) (fun a ha => ?_)
    · rw [hA2, st2_s]
      by_cases e : x = s
      · subst e
        rw [u1_s, h1 _ (by omega) (by omega), ← hg x hs (by omega)]
      · rw [u1_n e]; exact h1 x a (by omega)
    · rw [hA2, st2_s, u1_n (by omega)]; exact h2 x a
    · rw [hA2, st2_n ha]; exact h3 a ha
/-- what trial.goOn leaves -/
def TrPost (l first : Int) (N : Nat) (f : Fn2 → Fn2) (s F A F' A' : Fn2) : Prop := TX l F A F' A' ∧ (∀ t : Nat, 1 ≤ t → t ≤ N → A' 55 (first - 1 + t) = itS f t s 9 15) ∧ (∀ x, x < first → A' 55 x = A 55 x) ∧ ∃ m : Nat, m ≤ N ∧ FS 28 (itS f m s) F' A' ∧ (m = N ∨ 1 ≤ m ∧ ∃ a : Nat, a < m ∧ wh8 (itS f a s) (itS f m s))
theorem w_trialL {X : Int × (Int → Int)} {k : Nat} {Q : Vv → Fn2 → Fn2 → Fn2 → Prop} {R : Fn2} {q l first n cw jn lr lg K c a g : Int} {P s F0 A0 : Fn2} {C : Nat → Option (List Int)} (hR : RS R) (hP : WFP P) (hcw : 0 ≤ cw) (hcw2 : cw ≤ 99) (hlg : 0 ≤ lg) (hf : 1 ≤ first) (hn : n ≤ 1000) {N : Nat} (hN : first - 1 + N = n) (hI : Iv P K 1920 c a g s) (hK : K + 19512 * N + 19512 ≤ 41000000) (hc : c + 240 * N ≤ 10000000) (ha : a + 2712 * N ≤ 10000000) (hg : g + 792 * N ≤ 10000000) (hE0 : FE 28 q l P C F0 A0 R) (h2 : F0 28 2 = cw) (h12 : F0 28 12 = jn) (h13 : F0 28 13 = lr) (h14 : F0 28 14 = lg)
    (hq : ∀ F' A', TrPost l first N (tickA P (LwF C) cw jn lr lg) s F0 A0 F' A' → Q vN F' A' R) : ∀ (m t μ : Nat) (reach : Int) (F A : Fn2), t + m = N → μ ≤ t → 1 ≤ reach → reach ≤ 2000 → TX l F0 A0 F A → FS 28 (itS (tickA P (LwF C) cw jn lr lg) t s) F A → (∀ r, 0 ≤ r → r < 8 → A 56 r = itS (tickA P (LwF C) cw jn lr lg) μ s 0 r ∧ A 57 r = itS (tickA P (LwF C) cw jn lr lg) μ s 1 r) → (∀ x : Nat, 1 ≤ x → x ≤ t → A 55 (first - 1 + x) = itS (tickA P (LwF C) cw jn lr lg) x s 9 15) → (∀ x, x < first → A 55 x = A0 55 x) → G X (k + 5) m_X9_goOn Q 14 [vA 27, vI first, vI n, vI (first - 1 + μ), vI reach, vI (first + t)] [] F A R
  | 0, t, μ, reach, F, A, hm, hμ, hr1, hr2, hX, hs, hmk, hth, hlo => by
    refine b_X9_goOn_14 hR ⟨fun _ => hq F A ⟨hX, fun x h1 h2 => hth x h1 (by omega), hlo, t, by omega, hs, Or.inl (by omega)⟩, fun hx => absurd (show n < first + t by omega) hx⟩
  | m + 1, t, μ, reach, F, A, hm, hμ, hr1, hr2, hX, hs, hmk, hth, hlo => by
    have hIt : Iv P (K + 19512 * t) 1920 (c + 240 * t) (a + 2712 * t) (g + 792 * t) (itS (tickA P (LwF C) cw jn lr lg) t s) := by
      clear hs hmk hth hm
      induction t with
      | zero => simpa [itS] using hI
      | succ t ih =>
        by_cases hle : μ ≤ t
        · have := iv_tick (jn := jn) (lr := lr) (L := LwF C) (ih hle) hP LwF_ok hcw hcw2 hlg
          exact this.mono (by omega) (by omega) (by omega) (by omega) (by omega)
        · have : Iv P (K + 19512 * t) 1920 (c + 240 * t) (a + 2712 * t) (g + 792 * t) (itS (tickA P (LwF C) cw jn lr lg) t s) := by
            clear ih hμ hle
            induction t with
            | zero => simpa [itS] using hI
            | succ t ih =>
              have := iv_tick (jn := jn) (lr := lr) (L := LwF C) ih hP LwF_ok hcw hcw2 hlg
              exact this.mono (by omega) (by omega) (by omega) (by omega) (by omega)
          have := iv_tick (jn := jn) (lr := lr) (L := LwF C) this hP LwF_ok hcw hcw2 hlg
          exact this.mono (by omega) (by omega) (by omega) (by omega) (by omega)
    have hE := hE0.tx hX
    have hof : At_Flow 28 := at_28
    have hl := hE0.2.2.2.1
    have dl := dj_L28 hl
    refine b_X9_goOn_14 hR ⟨fun hx => by omega, fun _ => ?_⟩
    refine c_pass (k := k) (cw := cw) (jn := jn) (lr := lr) (lg := lg) hR hof hP hIt (by omega) (by omega) (by omega) (by omega) (by omega) hE hs (by rw [hX.2 _ _ (by omega)]; exact h2) hcw hcw2 (by rw [hX.2 _ _ (by omega)]; exact h12) (by rw [hX.2 _ _ (by omega)]; exact h13) (by rw [hX.2 _ _ (by omega)]; exact h14) hlg fun F1 A1 y1 y2 => ?_
    have y1 : FS 28 (itS (tickA P (LwF C) cw jn lr lg) (t + 1) s) F1 A1 := y1
    have x1 := hX.trans y2.tx
    refine b_X9_goOn_27 hR ⟨by omega, by omega, fun A2 hA2 => ?_⟩
    have y1' := y1
    obtain ⟨e0, e1, e2, e3, f5, f6, f7, f8⟩ := y1'
    have x2 : TX l F0 A0 F1 A2 := ⟨fun z h1 h2 => by rw [hA2, st2_n (by omega)]; exact x1.1 z h1 h2, x1.2⟩
    have g46 : A2 46 = itS (tickA P (LwF C) cw jn lr lg) (t + 1) s 0 := by rw [hA2, st2_n (by decide)]; exact e0
    have g47 : A2 47 = itS (tickA P (LwF C) cw jn lr lg) (t + 1) s 1 := by rw [hA2, st2_n (by decide)]; exact e1
    have g56 : ∀ r, A2 56 r = A 56 r := fun r => by rw [hA2, st2_n (by decide), y2.1 _ (by omega) (by omega)]
    have g57 : ∀ r, A2 57 r = A 57 r := fun r => by rw [hA2, st2_n (by decide), y2.1 _ (by omega) (by omega)]
    have s2 : FS 28 (itS (tickA P (LwF C) cw jn lr lg) (t + 1) s) F1 A2 := by
      rw [hA2]
      refine ⟨?_, ?_, ?_, ?_, f5, f6, f7, f8⟩ <;> rw [st2_n (by decide)] <;> assumption
    have h55 : ∀ x : Nat, 1 ≤ x → x ≤ t + 1 → A2 55 (first - 1 + x) = itS (tickA P (LwF C) cw jn lr lg) x s 9 15 := by
      intro x a1 a2
      rw [hA2, st2_s]
      by_cases e : x = t + 1
      · subst e
        rw [show first - 1 + ((t + 1 : Nat) : Int) = first + t by omega, u1_s]; exact f5
      · rw [u1_n (by omega), y2.1 _ (by omega) (by omega)]; exact hth x a1 (by omega)
    have h55l : ∀ x, x < first → A2 55 x = A0 55 x := by
      intro x hx
      rw [hA2, st2_s, u1_n (by omega), y2.1 _ (by omega) (by omega)]; exact hlo x hx
    refine w_atMark (k := k + 4) hR (fun h => ?_) (fun h => ?_)
    · -- all comes again
      have hw : wh8 (itS (tickA P (LwF C) cw jn lr lg) μ s) (itS (tickA P (LwF C) cw jn lr lg) (t + 1) s) := fun r a b => by
        have h1 := h r a b
        rw [g46, g47, g56, g57, (hmk r a b).1, (hmk r a b).2] at h1
        exact ⟨h1.1.symm, h1.2.symm⟩
      refine b_X9_goOn_45 ⟨fun hx => by omega, fun _ => ⟨by omega, ?_⟩⟩
      refine Wp.of (k := k + 4) [vA 27, vI (first + t - (first - 1 + μ)), vI (first + t), vI n, vN] rfl rfl rfl (b_X9_repeat_0 ⟨by omega, fun g1 hg1 => ?_⟩)
      subst hg1
      refine w_repeatL (g := fun x => itS (tickA P (LwF C) cw jn lr lg) (x - (first - 1)).toNat s 9 15) (A := A2) hR (by omega) (by omega) (by omega) hn (fun x z1 z2 => ?_) (fun A3 z1 z2 z3 => b_X9_goOn_59 (hq F1 A3 ⟨?_, fun x h1 h2 => ?_, fun x hx => ?_, t + 1, by omega, ?_, Or.inr ⟨by omega, μ, by omega, hw⟩⟩)) (n - (first + t)).toNat (first + t + 1) A2 (by omega) (by omega) (fun x z1 z2 => ?_) (fun _ _ => rfl) (fun _ _ => rfl)
      · have := it_ring (t := (x - (first - 1)).toNat) hP (show μ < t + 1 by omega) hw (by omega)
        rw [this]
        congr 2
        omega
      · exact ⟨fun z h1 h2 => by rw [z3 z (by omega)]; exact x2.1 z h1 h2, x2.2⟩
      · by_cases e : x ≤ t + 1
        · rw [z2 _ (by omega)]; exact h55 x h1 e
        · rw [z1 _ (by omega) (by omega) (by omega)]
          show itS _ (first - 1 + (x : Int) - (first - 1)).toNat s 9 15 = _
          rw [show (first - 1 + (x : Int) - (first - 1)).toNat = x by omega]
      · rw [z2 _ (by omega)]; exact h55l x hx
      · obtain ⟨k0, k1, k2, k3, k5⟩ := s2
        refine ⟨?_, ?_, ?_, ?_, k5⟩ <;> rw [z3 _ (by decide)] <;> assumption
      · have := h55 (x - (first - 1)).toNat (by omega) (by omega)
        rw [show first - 1 + ((x - (first - 1)).toNat : Int) = x by omega] at this
        exact this
    · have nx : ∀ (μ' : Nat) (reach' : Int) (A3 : Fn2), μ' ≤ t + 1 → 1 ≤ reach' → reach' ≤ 2000 → TX l F0 A0 F1 A3 → FS 28 (itS (tickA P (LwF C) cw jn lr lg) (t + 1) s) F1 A3 → (∀ r, 0 ≤ r → r < 8 → A3 56 r = itS (tickA P (LwF C) cw jn lr lg) μ' s 0 r ∧ A3 57 r = itS (tickA P (LwF C) cw jn lr lg) μ' s 1 r) → A3 55 = A2 55 → G X (k + 5) m_X9_goOn Q 82 [vA 27, vI first, vI n, vI (first - 1 + μ'), vI reach', vI (first + t)] [] F1 A3 R := by
        intro μ' reach' A3 b1 b2 b3 b4 b5 b6 b7
        refine b_X9_goOn_82 ⟨by omega, ?_⟩
        have := w_trialL (X := X) (k := k) hR hP hcw hcw2 hlg hf hn hN hI hK hc ha hg hE0 h2 h12 h13 h14 hq m (t + 1) μ' reach' F1 A3 (by omega) b1 b2 b3 b4 b5 b6 (by rw [b7]; exact h55) (by rw [b7]; exact h55l)
        rw [show first + ((t + 1 : Nat) : Int) = first + t + 1 by omega] at this
        exact this
      refine b_X9_goOn_45 ⟨fun _ => ⟨by omega, fun hne => nx μ reach A2 (by omega) hr1 hr2 x2 s2 (fun r a b => by rw [g56, g57]; exact hmk r a b) rfl, fun heq => ⟨by omega, fun g1 hg1 => ?_⟩⟩, fun hx => absurd rfl hx⟩
      refine w_setMark (k := k + 4) hR fun A3 z1 z2 z3 => ?_
      have := nx (t + 1) g1 A3 (by omega) (by omega) (by omega) ⟨fun z h1 h2 => by rw [z3 z (by omega) (by omega)]; exact x2.1 z h1 h2, x2.2⟩ (by
        obtain ⟨k0, k1, k2, k3, k5⟩ := s2
        refine ⟨?_, ?_, ?_, ?_, k5⟩ <;> rw [z3 _ (by decide) (by decide)] <;> assumption) (fun r a b => by
        rw [z1, z2, cpy_i a (by omega), cpy_i a (by omega), g46, g47, show 0 + (r - 0) = r by omega]
        exact ⟨rfl, rfl⟩) (z3 _ (by decide) (by decide))
      rw [show first - 1 + ((t + 1 : Nat) : Int) = first + t by omega] at this
      exact this
theorem w_trial {X : Int × (Int → Int)} {k : Nat} {Q : Vv → Fn2 → Fn2 → Fn2 → Prop} {F A R : Fn2} {q l first n cw jn lr lg K c a g : Int} {P s : Fn2} {C : Nat → Option (List Int)} (hR : RS R) (hP : WFP P) (hcw : 0 ≤ cw) (hcw2 : cw ≤ 99) (hlg : 0 ≤ lg) (hf : 1 ≤ first) (hn : n ≤ 1000) {N : Nat} (hN : first - 1 + N = n) (hI : Iv P K 1920 c a g s) (hK : K + 19512 * N + 19512 ≤ 41000000) (hc : c + 240 * N ≤ 10000000) (ha : a + 2712 * N ≤ 10000000) (hg : g + 792 * N ≤ 10000000) (hE0 : FE 28 q l P C F A R) (hs : FS 28 s F A) (h2 : F 28 2 = cw) (h12 : F 28 12 = jn) (h13 : F 28 13 = lr) (h14 : F 28 14 = lg)
    (hq : ∀ F' A', TrPost l first N (tickA P (LwF C) cw jn lr lg) s F A F' A' → Q vN F' A' R) : Wp X (k + 6) m_X9_goOn [vA 27, vI first, vI n] F A R Q := by
  have dl := dj_L28 hE0.2.2.2.1
  refine Wp.of [vA 27, vI first, vI n, vN, vN, vN] rfl rfl rfl (b_X9_goOn_0 ⟨by omega, fun g1 hg1 => ?_⟩)
  subst hg1
  refine w_setMark (k := k + 4) hR fun A1 z1 z2 z3 => b_X9_goOn_11 ?_
  have hX : TX l F A F A1 := ⟨fun z h1 h2 => z3 z (by omega) (by omega), fun _ _ _ => rfl⟩
  have hs1 : FS 28 s F A1 := by
    obtain ⟨k0, k1, k2, k3, k5⟩ := hs
    refine ⟨?_, ?_, ?_, ?_, k5⟩ <;> rw [z3 _ (by decide) (by decide)] <;> assumption
  have := w_trialL (X := X) (k := k) (s := s) (n := n) (first := first) hR hP hcw hcw2 hlg hf hn hN hI hK hc ha hg hE0 h2 h12 h13 h14 hq N 0 0 1 F A1 (by omega) (by omega) (by omega) (by omega) hX hs1 (fun r a b => by
    rw [z1, z2, cpy_i a (by omega), cpy_i a (by omega), show 0 + (r - 0) = r by omega]
    exact ⟨by rw [show A 46 = s 0 from hs.1]; rfl, by rw [show A 47 = s 1 from hs.2.1]; rfl⟩) (fun x a b => by omega) (fun x hx => by rw [z3 _ (by decide) (by decide)])
  simpa using this
