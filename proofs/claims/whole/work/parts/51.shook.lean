/-! shook: which wides let the same course pass -/
def SWr (P : Fn2) (r d : Int) (s s' : Fn2) : Prop := (∀ x, 0 ≤ x → x < 8 → s 0 x = s' 0 x ∧ s 1 x = s' 1 x) ∧ (∀ x, 0 ≤ x → x < P 0 0 → x ≠ r → s 2 x = s' 2 x) ∧ d ≤ s 2 r ∧ d ≤ s' 2 r ∧ s 9 15 = s' 9 15
theorem SWr.put {P s s' : Fn2} {r d x w h w' h' : Int} (hs : SWr P r d s s') (hw : w = w') (hh : h = h') : SWr P r d (st2 (st2 s 0 x w) 1 x h) (st2 (st2 s' 0 x w') 1 x h') := by
  subst hw; subst hh
  obtain ⟨h1, h2, h3⟩ := hs
  refine ⟨fun y a b => ?_, fun y a b c => ?_, ?_⟩
  · simp only [ne_eq, Int.add_right_inj, Int.reduceEq, not_false_eq_true, st2_n, st2_s, u1_s, u1_u1]
    by_cases e : y = x
    · subst e; simp only [u1_s, and_self]
    · rw [u1_n e, u1_n e, u1_n e, u1_n e]; exact h1 y a b
  · simp only [ne_eq, Int.add_right_inj, Int.reduceEq, not_false_eq_true, st2_n, st2_s, u1_s, u1_u1]; exact h2 y a b c
  · simp only [ne_eq, Int.add_right_inj, Int.reduceEq, not_false_eq_true, st2_n, st2_s, u1_s, u1_u1]; exact h3
theorem SWr.o9 {P s s' : Fn2} {r d i v v' : Int} (hs : SWr P r d s s') (hv : i = 15 → v = v') : SWr P r d (st2 s 9 i v) (st2 s' 9 i v') := by
  obtain ⟨h1, h2, h3, h4, h5⟩ := hs
  refine ⟨fun y a b => ?_, fun y a b c => ?_, ?_, ?_, ?_⟩
  · simp only [ne_eq, Int.add_right_inj, Int.reduceEq, not_false_eq_true, st2_n, st2_s, u1_s, u1_u1]; exact h1 y a b
  · simp only [ne_eq, Int.add_right_inj, Int.reduceEq, not_false_eq_true, st2_n, st2_s, u1_s, u1_u1]; exact h2 y a b c
  · simp only [ne_eq, Int.add_right_inj, Int.reduceEq, not_false_eq_true, st2_n, st2_s, u1_s, u1_u1]; exact h3
  · simp only [ne_eq, Int.add_right_inj, Int.reduceEq, not_false_eq_true, st2_n, st2_s, u1_s, u1_u1]; exact h4
  · simp only [ne_eq, Int.add_right_inj, Int.reduceEq, not_false_eq_true, st2_n, st2_s, u1_s, u1_u1]
    by_cases e : i = 15
    · subst e; rw [u1_s, u1_s]; exact hv rfl
    · rw [u1_n (Ne.symm e), u1_n (Ne.symm e)]; exact h5
theorem SWr.o3 {P s s' : Fn2} {r d i i' v v' : Int} (hs : SWr P r d s s') : SWr P r d (st2 s 3 i v) (st2 s' 3 i' v') := by
  obtain ⟨h1, h2, h3⟩ := hs
  refine ⟨fun y a b => ?_, fun y a b c => ?_, ?_⟩
  · simp only [ne_eq, Int.add_right_inj, Int.reduceEq, not_false_eq_true, st2_n, st2_s, u1_s, u1_u1]; exact h1 y a b
  · simp only [ne_eq, Int.add_right_inj, Int.reduceEq, not_false_eq_true, st2_n, st2_s, u1_s, u1_u1]; exact h2 y a b c
  · simp only [ne_eq, Int.add_right_inj, Int.reduceEq, not_false_eq_true, st2_n, st2_s, u1_s, u1_u1]; exact h3
theorem SWr.tk {P s s' : Fn2} {r d x n : Int} (hs : SWr P r d s s') (h0 : 0 ≤ x) (h8 : x < 8) : SWr P r d (tkS x n s) (tkS x n s') := by
  have h := hs.1 x h0 h8
  unfold tkS
  rw [h.1, h.2]
  exact hs.put rfl rfl
theorem SWr.gv {P s s' : Fn2} {r d x w h : Int} (hs : SWr P r d s s') (h0 : 0 ≤ x) (h8 : x < 8) : SWr P r d (gvS x w h s) (gvS x w h s') := by
  have h := hs.1 x h0 h8
  unfold gvS
  rw [h.1, h.2]
  exact hs.put rfl rfl
/-- what was needed grows -/
theorem thr_nd {P : Fn2} {many r : Int} : ∀ (f : Nat) (u : Int) (s : Fn2), s 3 r ≤ thrS P many f u s 3 r
  | 0, _, _ => Int.le_refl _
  | f + 1, u, s => by
    unfold thrS
    split
    · exact Int.le_refl _
    · dsimp only
      refine Int.le_trans ?_ (thr_nd f _ _)
      have h : ∀ (c : Prop) [Decidable c] (x y : Fn2), s 3 r ≤ x 3 r → s 3 r ≤ y 3 r → s 3 r ≤ (if c then x else y) 3 r := by
        intro c _ x y hx hy; split <;> assumption
      have h3 : s 3 r ≤ (st2 s 3 u (max (s 3 u) (min many (s 0 u)))) 3 r := by
        rw [st2_s]
        by_cases e : r = u
        · subst e; rw [u1_s]; omega
        · rw [u1_n e]; exact Int.le_refl _
      apply h
      · rw [gvS_r (by decide) (by decide)]; simp only [ne_eq, Int.add_right_inj, Int.reduceEq, not_false_eq_true, st2_n, st2_s, u1_s, u1_u1]; rw [tkS_r (by decide) (by decide)]; exact h3
      · simp only [ne_eq, Int.add_right_inj, Int.reduceEq, not_false_eq_true, st2_n, st2_s, u1_s, u1_u1]; rw [tkS_r (by decide) (by decide)]; exact h3
theorem thr_w {P : Fn2} {many r d : Int} (hP : WFP P) : ∀ (f : Nat) (u : Int) (s s' : Fn2), u < P 0 0 → SWr P r d s s' → thrS P many f u s 3 r ≤ d → SWr P r d (thrS P many f u s) (thrS P many f u s')
  | 0, u, s, s', hb, hs, hd => hs
  | f + 1, u, s, s', hb, hs, hd => by
    have h8 := hP.1
    by_cases hc : u < 0 ∨ many ≤ 0
    · unfold thrS
      rw [if_pos hc, if_pos hc]; exact hs
    · have h0 : 0 ≤ u := by omega
      have h1 := hs.1 u h0 (by omega)
      have hup := (hP.2.1 u h0 hb).2.2.2.2.2.2.2.1
      have hg : min (min many (s 0 u)) (s 2 u) = min (min many (s' 0 u)) (s' 2 u) := by
        by_cases e : u = r
        · subst e
          have h3 : max (s 3 u) (min many (s 0 u)) ≤ d := by
            refine Int.le_trans ?_ hd
            unfold thrS
            rw [if_neg hc]
            try dsimp only
            refine Int.le_trans ?_ (thr_nd f _ _)
            have h : ∀ (c : Prop) [Decidable c] (x y : Fn2), max (s 3 u) (min many (s 0 u)) ≤ x 3 u → max (s 3 u) (min many (s 0 u)) ≤ y 3 u → max (s 3 u) (min many (s 0 u)) ≤ (if c then x else y) 3 u := by
              intro c _ x y hx hy; split <;> assumption
            have h3 : max (s 3 u) (min many (s 0 u)) ≤ (st2 s 3 u (max (s 3 u) (min many (s 0 u)))) 3 u := by
              rw [st2_s, u1_s]; exact Int.le_refl _
            apply h
            · rw [gvS_r (by decide) (by decide)]; simp only [ne_eq, Int.add_right_inj, Int.reduceEq, not_false_eq_true, st2_n, st2_s, u1_s, u1_u1]; rw [tkS_r (by decide) (by decide), st2_s, u1_s]; exact Int.le_refl _
            · simp only [ne_eq, Int.add_right_inj, Int.reduceEq, not_false_eq_true, st2_n, st2_s, u1_s, u1_u1]; rw [tkS_r (by decide) (by decide), st2_s, u1_s]; exact Int.le_refl _
          have := hs.2.2.1
          have := hs.2.2.2.1
          rw [← h1.1]; omega
        · rw [h1.1, hs.2.1 u h0 hb e]
      unfold thrS at hd ⊢
      rw [if_neg hc] at hd
      rw [if_neg hc, if_neg hc]
      dsimp only at hd ⊢
      rw [← hg, ← h1.1, ← h1.2]
      have ht : SWr P r d (tkS u (min (min many (s 0 u)) (s 2 u)) (st2 s 3 u (max (s 3 u) (min many (s 0 u))))) (tkS u (min (min many (s 0 u)) (s 2 u)) (st2 s' 3 u (max (s' 3 u) (min many (s 0 u))))) := hs.o3.tk h0 (by omega)
      generalize tkS u (min (min many (s 0 u)) (s 2 u)) (st2 s 3 u (max (s 3 u) (min many (s 0 u)))) = t at *
      generalize tkS u (min (min many (s 0 u)) (s 2 u)) (st2 s' 3 u (max (s' 3 u) (min many (s 0 u)))) = t' at *
      generalize min (min many (s 0 u)) (s 2 u) = g at *
      generalize s 1 u * g / s 0 u = sh at *
      have ek : (if P 8 u < 0 then 0 else min g (P 4 (P 8 u) - t 0 (P 8 u))) = (if P 8 u < 0 then 0 else min g (P 4 (P 8 u) - t' 0 (P 8 u))) := by
        by_cases hz : P 8 u < 0
        · rw [if_pos hz, if_pos hz]
        · rw [if_neg hz, if_neg hz, (ht.1 (P 8 u) (by omega) (by omega)).1]
      rw [← ek]
      have hk3 : 0 < (if P 8 u < 0 then 0 else min g (P 4 (P 8 u) - t 0 (P 8 u))) → ¬ P 8 u < 0 := by
        by_cases hz : P 8 u < 0
        · rw [if_pos hz]; omega
        · intro _; exact hz
      generalize (if P 8 u < 0 then 0 else min g (P 4 (P 8 u) - t 0 (P 8 u))) = kk at *
      have ht2 : SWr P r d (st2 (st2 t 9 15 (t 9 15 + (g - kk))) 9 17 (t 9 17 + (g - kk))) (st2 (st2 t' 9 15 (t' 9 15 + (g - kk))) 9 17 (t' 9 17 + (g - kk))) := (ht.o9 (fun _ => by rw [ht.2.2.2.2])).o9 (fun h => absurd h (by decide))
      refine thr_w hP f (P 8 u) _ _ (by omega) ?_ hd
      by_cases hk : 0 < kk
      · rw [if_pos hk, if_pos hk]
        have := hk3 hk
        exact ht2.gv (by omega) (by omega)
      · rw [if_neg hk, if_neg hk]; exact ht2
theorem stm_3 {P : Fn2} {Bl Lf St : Int → Int} {r x : Int} {s : Fn2} : s 3 x ≤ stmS P Bl Lf St r s 3 x := by
  unfold stmS
  refine Int.le_trans ?_ (thr_nd 8 _ _)
  simp only [ne_eq, Int.add_right_inj, Int.reduceEq, not_false_eq_true, st2_n, st2_s, u1_s, u1_u1]; exact Int.le_refl _
theorem lpd_3 {P : Fn2} {Bl Lf St : Int → Int} {x : Int} : ∀ (n : Nat) (s : Fn2), s 3 x ≤ lpd (stmS P Bl Lf St) n s 3 x
  | 0, _ => Int.le_refl _
  | n + 1, s => Int.le_trans stm_3 (lpd_3 n (stmS P Bl Lf St n s))
theorem lpd_w {P : Fn2} {Bl Lf St Bl' Lf' St' : Int → Int} {r d : Int} (hP : WFP P) (hB : ∀ x, 0 ≤ x → x < P 0 0 → Bl x = Bl' x ∧ Lf x = Lf' x ∧ St x = St' x) : ∀ (n : Nat) (s s' : Fn2), (n : Int) ≤ P 0 0 → SWr P r d s s' → lpd (stmS P Bl Lf St) n s 3 r ≤ d → SWr P r d (lpd (stmS P Bl Lf St) n s) (lpd (stmS P Bl' Lf' St') n s')
  | 0, s, s', hn, hs, hd => hs
  | n + 1, s, s', hn, hs, hd => by
    have h8 := hP.1
    have h1 := hs.1 n (by omega) (by omega)
    obtain ⟨b1, b2, b3⟩ := hB n (by omega) (by omega)
    have hup := (hP.2.1 n (by omega) (by omega)).2.2.2.2.2.2.2.1
    have hd1 : stmS P Bl Lf St n s 3 r ≤ d := Int.le_trans (lpd_3 n (stmS P Bl Lf St n s)) hd
    refine lpd_w hP hB n _ _ (by omega) ?_ hd
    unfold stmS at hd1 ⊢
    rw [← h1.1, ← h1.2, ← b1, ← b2, ← b3]
    exact thr_w hP 8 _ _ _ (by omega) ((hs.put rfl rfl).o9 (fun h => absurd h (by decide))) hd1
theorem lwAt_w {P s s' : Fn2} {l : Lw4} {r d x : Int} (hP : WFP P) (hs : SWr P r d s s') (h0 : 0 ≤ x) (hx : x < P 0 0) : lwAt l P s x = lwAt l P s' x := by
  have h8 := hP.1
  unfold lwAt
  have h1 := hs.1 x h0 (by omega)
  rw [h1.1, h1.2, abv_cong (up' := P 8) (W' := s' 0) (b := P 0 0) (fun r a b => (hP.2.1 r a b).2.2.2.2.2.2.2.1) (fun r a b => (hs.1 r a (by omega)).1) (fun r a b => Or.inl rfl) 8 x h0 hx]
theorem tick_3 {P s : Fn2} {L : Nat → Lw4} {cw jn x : Int} : s 3 x ≤ tick0 P L cw jn s 3 x := by
  have l3 : ∀ (f : Int → Fn2 → Fn2), (∀ i s, f i s 3 = s 3) → ∀ (n : Nat) (i : Int) (s : Fn2), lp f n i s 3 = s 3 := by
    intro f h n
    induction n with
    | zero => intro i s; rfl
    | succ n ih => intro i s; exact (ih (i + 1) (f i s)).trans (h i s)
  have h2 : ∀ s, poolA P s 3 = s 3 := fun s => l3 _ (fun i s => by
    unfold poolS; split
    · simp only [ne_eq, Int.add_right_inj, Int.reduceEq, not_false_eq_true, st2_n, st2_s, u1_s, u1_u1]; exact tkS_r (by decide) (by decide)
    · rfl) _ _ _
  have h4 : ∀ s, joinA P jn s 3 = s 3 := by
    intro s; unfold joinA; split
    · rfl
    · refine l3 _ (fun i s => ?_) _ _ _
      unfold joinS; rw [gvS_r (by decide) (by decide), tkS_r (by decide) (by decide)]
  have h5 : ∀ s, fillA P L cw s 3 = s 3 := fun s => l3 _ (fun i s => by
    unfold fillS; simp only [ne_eq, Int.add_right_inj, Int.reduceEq, not_false_eq_true, st2_n, st2_s, u1_s, u1_u1]) _ _ _
  unfold tick0
  rw [h2]
  unfold spoutA
  refine Int.le_trans ?_ (lpd_3 _ _)
  rw [h4, h5]
  simp only [ne_eq, Int.add_right_inj, Int.reduceEq, not_false_eq_true, st2_n, st2_s, u1_s, u1_u1]; exact Int.le_refl _
theorem tick_w {P s s' : Fn2} {L : Nat → Lw4} {cw jn r d : Int} (hP : WFP P) (hs : SWr P r d s s') (hd : tick0 P L cw jn s 3 r ≤ d) : SWr P r d (tick0 P L cw jn s) (tick0 P L cw jn s') := by
  have h8 := hP.1
  have e1 := rms_e hP
  have e2 := jns_e hP
  have hs0 : SWr P r d (st2 s 9 15 0) (st2 s' 9 15 0) := hs.o9 fun _ => rfl
  have h1 : SWr P r d (fillA P L cw (st2 s 9 15 0)) (fillA P L cw (st2 s' 9 15 0)) := by
    unfold fillA
    refine lp_rel (SWr P r d) (a := 0) (b := P 0 0) (fun i x y a b hxy => ?_) (rms P) 0 _ _ (by omega) (by omega) hs0
    have h := hxy.1 i a (by omega)
    unfold fillS
    rw [h.1, h.2, lwAt_w hP hs0 a b]
    exact (hxy.put rfl rfl).o9 (fun h => absurd h (by decide))
  have h2 : SWr P r d (joinA P jn (fillA P L cw (st2 s 9 15 0))) (joinA P jn (fillA P L cw (st2 s' 9 15 0))) := by
    unfold joinA
    by_cases hj : jn = 0
    · rw [if_pos hj, if_pos hj]; exact h1
    · rw [if_neg hj, if_neg hj]
      refine lp_rel (SWr P r d) (a := 0) (b := P 0 1) (fun i x y a b hxy => ?_) (jns P) 0 _ _ (by omega) (by omega) h1
      have h3 := hP.2.2 i a b
      have ea : jnA P i x = jnA P i y ∧ jnB P i x = jnB P i y := by
        unfold jnA jnB
        rw [(hxy.1 (P 9 i) (by omega) (by omega)).1, (hxy.1 (P 10 i) (by omega) (by omega)).1]
        exact ⟨rfl, rfl⟩
      have hab := (jn_ab (P := P) (s := x) (j := i)).1
      have hb : 0 ≤ jnA P i x ∧ jnA P i x < P 0 0 ∧ 0 ≤ jnB P i x ∧ jnB P i x < P 0 0 := by
        rcases hab with ⟨h, h'⟩ | ⟨h, h'⟩ <;> rw [h, h'] <;> omega
      unfold joinS
      rw [← ea.1, ← ea.2]
      dsimp only
      have hA := hxy.1 (jnA P i x) (by omega) (by omega)
      have hB := hxy.1 (jnB P i x) (by omega) (by omega)
      rw [hA.1, hA.2, hB.1]
      exact (hxy.tk (by omega) (by omega)).gv (by omega) (by omega)
  have l3 : ∀ s, poolA P s 3 = s 3 := by
    intro s
    unfold poolA
    have : ∀ (n : Nat) (i : Int) (s : Fn2), lp (poolS P) n i s 3 = s 3 := by
      intro n
      induction n with
      | zero => intro i s; rfl
      | succ n ih =>
        intro i s
        refine (ih (i + 1) (poolS P i s)).trans ?_
        unfold poolS; split
        · simp only [ne_eq, Int.add_right_inj, Int.reduceEq, not_false_eq_true, st2_n, st2_s, u1_s, u1_u1]; exact tkS_r (by decide) (by decide)
        · rfl
    exact this _ _ _
  have hd2 : spoutA P L (joinA P jn (fillA P L cw (st2 s 9 15 0))) 3 r ≤ d := by
    have := hd
    unfold tick0 at this
    rwa [l3] at this
  have h3 : SWr P r d (spoutA P L (joinA P jn (fillA P L cw (st2 s 9 15 0)))) (spoutA P L (joinA P jn (fillA P L cw (st2 s' 9 15 0)))) := by
    unfold spoutA at hd2 ⊢
    refine lpd_w hP (fun x a b => ⟨lwAt_w hP h2 a b, lwAt_w hP h2 a b, ?_⟩) (rms P) _ _ (by omega) h2 hd2
    unfold stmR
    have h4 := h2.1 x a (by omega)
    rw [lwAt_w hP h2 a b, h4.1, h4.2]
  unfold tick0 poolA
  refine lp_rel (SWr P r d) (a := 0) (b := P 0 0) (fun i x y a b hxy => ?_) (rms P) 0 _ _ (by omega) (by omega) h3
  have h := hxy.1 i a (by omega)
  unfold poolS
  rw [← h.1]
  by_cases hc : P 1 i = 2 ∧ P 4 i ≤ x 0 i
  · rw [if_pos hc, if_pos hc]
    exact (hxy.tk a (by omega)).o9 (fun h => absurd h (by decide))
  · rw [if_neg hc, if_neg hc]; exact hxy
/-- a wide that held nothing back, and a lesser or greater one that wouldn't either, let the same course pass -/
theorem free_same {P s : Fn2} {L : Nat → Lw4} {cw r w : Int} {m N : Nat} (hP : WFP P) (hm : m = N ∨ 1 ≤ m ∧ ∃ a : Nat, a < m ∧ wh8 (itS (tickA P L cw 1 (-1) 0) a s) (itS (tickA P L cw 1 (-1) 0) m s)) (h1 : itS (tickA P L cw 1 (-1) 0) m s 3 r ≤ s 2 r) (h2 : itS (tickA P L cw 1 (-1) 0) m s 3 r ≤ w) : ∀ t : Nat, 1 ≤ t → t ≤ N → itS (tickA P L cw 1 (-1) 0) t s 9 15 = itS (tickA P L cw 1 (-1) 0) t (st2 s 2 r w) 9 15 := by
  have mono : ∀ (a b : Nat), itS (tickA P L cw 1 (-1) 0) a s 3 r ≤ itS (tickA P L cw 1 (-1) 0) (a + b) s 3 r := by
    intro a b
    induction b with
    | zero => exact Int.le_refl _
    | succ b ih =>
      refine Int.le_trans ih ?_
      show _ ≤ tickA P L cw 1 (-1) 0 (itS (tickA P L cw 1 (-1) 0) (a + b) s) 3 r
      rw [tick_led0 (by omega)]
      exact tick_3
  have low : ∀ t : Nat, t ≤ m → SWr P r (itS (tickA P L cw 1 (-1) 0) m s 3 r) (itS (tickA P L cw 1 (-1) 0) t s) (itS (tickA P L cw 1 (-1) 0) t (st2 s 2 r w)) := by
    intro t
    induction t with
    | zero =>
      intro _
      refine ⟨fun x a b => ?_, fun x a b c => ?_, h1, ?_, ?_⟩
      · show s 0 x = (st2 s 2 r w) 0 x ∧ s 1 x = (st2 s 2 r w) 1 x
        simp only [ne_eq, Int.add_right_inj, Int.reduceEq, not_false_eq_true, st2_n, st2_s, u1_s, u1_u1, and_self]
      · show s 2 x = (st2 s 2 r w) 2 x
        rw [st2_s, u1_n c]
      · show _ ≤ (st2 s 2 r w) 2 r
        rw [st2_s, u1_s]; exact h2
      · show s 9 15 = (st2 s 2 r w) 9 15
        simp only [ne_eq, Int.add_right_inj, Int.reduceEq, not_false_eq_true, st2_n, st2_s, u1_s, u1_u1]
    | succ t ih =>
      intro ht
      show SWr P r _ (tickA P L cw 1 (-1) 0 (itS (tickA P L cw 1 (-1) 0) t s)) (tickA P L cw 1 (-1) 0 (itS (tickA P L cw 1 (-1) 0) t (st2 s 2 r w)))
      rw [tick_led0 (by omega), tick_led0 (by omega)]
      refine tick_w hP (ih (by omega)) ?_
      have := mono (t + 1) (m - (t + 1))
      rw [show t + 1 + (m - (t + 1)) = m by omega] at this
      have e : itS (tickA P L cw 1 (-1) 0) (t + 1) s = tick0 P L cw 1 (itS (tickA P L cw 1 (-1) 0) t s) := by
        show tickA P L cw 1 (-1) 0 (itS (tickA P L cw 1 (-1) 0) t s) = _
        exact tick_led0 (by omega)
      rw [← e]; exact this
  intro t
  induction t using Nat.strongRecOn with
  | _ t ih =>
    intro ht1 htN
    by_cases hle : t ≤ m
    · exact (low t hle).2.2.2.2
    · rcases hm with e | ⟨_, a, ha, hw⟩
      · omega
      · have hw' : wh8 (itS (tickA P L cw 1 (-1) 0) a (st2 s 2 r w)) (itS (tickA P L cw 1 (-1) 0) m (st2 s 2 r w)) := fun x x0 x8 => by
          have h3 := (low a (by omega)).1 x x0 x8
          have h4 := (low m (Nat.le_refl _)).1 x x0 x8
          have h5 := hw x x0 x8
          rw [← h3.1, ← h3.2, ← h4.1, ← h4.2]; exact h5
        rw [it_ring hP ha hw (by omega), it_ring hP ha hw' (by omega)]
        exact ih (t - (m - a)) (by omega) (by omega) (by omega)
