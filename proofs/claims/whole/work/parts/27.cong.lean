/-! TWO TELLINGS OF ONE SPRING LET THE SAME SECONDS PASS -/
def PEq (P P' : Fn2) : Prop := P 0 0 = P' 0 0 ∧ P 0 1 = P' 0 1 ∧ (∀ r, 0 ≤ r → r < P 0 0 → P 1 r = P' 1 r ∧ P 3 r = P' 3 r ∧ P 4 r = P' 4 r ∧ P 5 r = P' 5 r ∧ P 6 r = P' 6 r ∧ P 7 r = P' 7 r ∧ (P 8 r = P' 8 r ∨ P 8 r < 0 ∧ P' 8 r < 0)) ∧ ∀ j, 0 ≤ j → j < P 0 1 → P 9 j = P' 9 j ∧ P 10 j = P' 10 j ∧ P 11 j = P' 11 j
def SEq (τ β : Prop) (P s s' : Fn2) : Prop := (∀ r, 0 ≤ r → r < 8 → s 0 r = s' 0 r ∧ s 1 r = s' 1 r) ∧ (∀ r, 0 ≤ r → r < P 0 0 → s 2 r = s' 2 r) ∧ (τ → s 9 15 = s' 9 15) ∧ (β → s 9 16 = s' 9 16 ∧ s 9 17 = s' 9 17 ∧ s 9 18 = s' 9 18)
theorem PEq.refl {P : Fn2} : PEq P P := ⟨rfl, rfl, fun _ _ _ => ⟨rfl, rfl, rfl, rfl, rfl, rfl, Or.inl rfl⟩, fun _ _ _ => ⟨rfl, rfl, rfl⟩⟩
theorem SEq.refl {τ β : Prop} {P s : Fn2} : SEq τ β P s s := ⟨fun _ _ _ => ⟨rfl, rfl⟩, fun _ _ _ => rfl, fun _ => rfl, fun _ => ⟨rfl, rfl, rfl⟩⟩
theorem SEq.weak {τ β τ' β' : Prop} {P s s' : Fn2} (h : SEq τ β P s s') (h1 : τ' → τ) (h2 : β' → β) : SEq τ' β' P s s' := ⟨h.1, h.2.1, fun x => h.2.2.1 (h1 x), fun x => h.2.2.2 (h2 x)⟩
theorem SEq.symm {τ β : Prop} {P s s' : Fn2} (h : SEq τ β P s s') : SEq τ β P s' s := ⟨fun r a b => ⟨(h.1 r a b).1.symm, (h.1 r a b).2.symm⟩, fun r a b => (h.2.1 r a b).symm, fun x => (h.2.2.1 x).symm, fun x => ⟨(h.2.2.2 x).1.symm, (h.2.2.2 x).2.1.symm, (h.2.2.2 x).2.2.symm⟩⟩
theorem SEq.trans {τ β : Prop} {P s s' s'' : Fn2} (h : SEq τ β P s s') (g : SEq τ β P s' s'') : SEq τ β P s s'' := ⟨fun r a b => ⟨(h.1 r a b).1.trans (g.1 r a b).1, (h.1 r a b).2.trans (g.1 r a b).2⟩, fun r a b => (h.2.1 r a b).trans (g.2.1 r a b), fun x => (h.2.2.1 x).trans (g.2.2.1 x), fun x => ⟨(h.2.2.2 x).1.trans (g.2.2.2 x).1, (h.2.2.2 x).2.1.trans (g.2.2.2 x).2.1, (h.2.2.2 x).2.2.trans (g.2.2.2 x).2.2⟩⟩
theorem SEq.put {τ β : Prop} {P s s' : Fn2} {r w h w' h' : Int} (hs : SEq τ β P s s') (hw : w = w') (hh : h = h') : SEq τ β P (st2 (st2 s 0 r w) 1 r h) (st2 (st2 s' 0 r w') 1 r h') := by
  subst hw; subst hh
  obtain ⟨h1, h2, h3⟩ := hs
  refine ⟨fun x a b => ?_, fun x a b => ?_, ?_⟩
  · simp only [ne_eq, Int.add_right_inj, Int.reduceEq, not_false_eq_true, st2_n, st2_s, u1_s, u1_u1]
    by_cases e : x = r
    · subst e; simp only [u1_s, and_self]
    · rw [u1_n e, u1_n e, u1_n e, u1_n e]; exact h1 x a b
  · simp only [ne_eq, Int.add_right_inj, Int.reduceEq, not_false_eq_true, st2_n, st2_s, u1_s, u1_u1]; exact h2 x a b
  · simp only [ne_eq, Int.add_right_inj, Int.reduceEq, not_false_eq_true, st2_n, st2_s, u1_s, u1_u1]; exact h3
theorem SEq.o9 {τ β : Prop} {P s s' : Fn2} {i v v' : Int} (hs : SEq τ β P s s') (hi : i = 15 ∧ (τ → v = v') ∨ (i = 16 ∨ i = 17 ∨ i = 18) ∧ (β → v = v')) : SEq τ β P (st2 s 9 i v) (st2 s' 9 i v') := by
  obtain ⟨h1, h2, h3, h4⟩ := hs
  refine ⟨fun x a b => ?_, fun x a b => ?_, fun ht => ?_, fun hb => ?_⟩
  · simp only [ne_eq, Int.add_right_inj, Int.reduceEq, not_false_eq_true, st2_n, st2_s, u1_s, u1_u1]; exact h1 x a b
  · simp only [ne_eq, Int.add_right_inj, Int.reduceEq, not_false_eq_true, st2_n, st2_s, u1_s, u1_u1]; exact h2 x a b
  · have h3 := h3 ht
    rcases hi with ⟨h, hv⟩ | ⟨h | h | h, hv⟩ <;> subst h <;> simp only [ne_eq, Int.add_right_inj, Int.reduceEq, not_false_eq_true, st2_n, st2_s, u1_s, u1_u1, u1_n]
    · exact hv ht
    all_goals exact h3
  · obtain ⟨h4, h5, h6⟩ := h4 hb
    rcases hi with ⟨h, hv⟩ | ⟨h | h | h, hv⟩ <;> subst h <;> simp only [ne_eq, Int.add_right_inj, Int.reduceEq, not_false_eq_true, st2_n, st2_s, u1_s, u1_u1, u1_n, h4, h5, h6, and_self, true_and, and_true] <;> exact hv hb
theorem SEq.t0 {τ β : Prop} {P s s' : Fn2} (hs : SEq τ β P s s') : SEq True β P (st2 s 9 15 0) (st2 s' 9 15 0) := by
  obtain ⟨h1, h2, h3, h4⟩ := hs
  refine ⟨fun x a b => ?_, fun x a b => ?_, fun ht => ?_, fun hb => ?_⟩
  · simp only [ne_eq, Int.add_right_inj, Int.reduceEq, not_false_eq_true, st2_n, st2_s, u1_s, u1_u1]; exact h1 x a b
  · simp only [ne_eq, Int.add_right_inj, Int.reduceEq, not_false_eq_true, st2_n, st2_s, u1_s, u1_u1]; exact h2 x a b
  · simp only [ne_eq, Int.add_right_inj, Int.reduceEq, not_false_eq_true, st2_n, st2_s, u1_s, u1_u1]
  · simp only [ne_eq, Int.add_right_inj, Int.reduceEq, not_false_eq_true, st2_n, st2_s, u1_s, u1_u1, u1_n]; exact h4 hb
theorem SEq.o3 {τ β : Prop} {P s s' : Fn2} {i i' v v' : Int} (hs : SEq τ β P s s') : SEq τ β P (st2 s 3 i v) (st2 s' 3 i' v') := by
  obtain ⟨h1, h2, h3⟩ := hs
  refine ⟨fun x a b => ?_, fun x a b => ?_, ?_⟩
  · simp only [ne_eq, Int.add_right_inj, Int.reduceEq, not_false_eq_true, st2_n, st2_s, u1_s, u1_u1]; exact h1 x a b
  · simp only [ne_eq, Int.add_right_inj, Int.reduceEq, not_false_eq_true, st2_n, st2_s, u1_s, u1_u1]; exact h2 x a b
  · simp only [ne_eq, Int.add_right_inj, Int.reduceEq, not_false_eq_true, st2_n, st2_s, u1_s, u1_u1]; exact h3
theorem SEq.tk {τ β : Prop} {P s s' : Fn2} {r n : Int} (hs : SEq τ β P s s') (h0 : 0 ≤ r) (h8 : r < 8) : SEq τ β P (tkS r n s) (tkS r n s') := by
  have h := hs.1 r h0 h8
  unfold tkS
  rw [h.1, h.2]
  exact hs.put rfl rfl
theorem SEq.gv {τ β : Prop} {P s s' : Fn2} {r w h : Int} (hs : SEq τ β P s s') (h0 : 0 ≤ r) (h8 : r < 8) : SEq τ β P (gvS r w h s) (gvS r w h s') := by
  have h := hs.1 r h0 h8
  unfold gvS
  rw [h.1, h.2]
  exact hs.put rfl rfl
theorem abv_cong {up up' W W' : Int → Int} {b : Int} (hu : ∀ r, 0 ≤ r → r < b → up r < r) (hw : ∀ r, 0 ≤ r → r < b → W r = W' r) (he : ∀ r, 0 ≤ r → r < b → up r = up' r ∨ up r < 0 ∧ up' r < 0) : ∀ (n : Nat) (r : Int), 0 ≤ r → r < b → abv up W n r = abv up' W' n r
  | 0, r, h0, hb => rfl
  | n + 1, r, h0, hb => by
    unfold abv
    have h1 := hu r h0 hb
    rcases he r h0 hb with e | ⟨e1, e2⟩
    · rw [← e]
      split
      · rfl
      · rw [hw _ (by omega) (by omega), abv_cong hu hw he n (up r) (by omega) (by omega)]
    · rw [if_pos e1, if_pos e2]
theorem lwAt_cong {τ β : Prop} {P P' s s' : Fn2} {l : Lw4} {r : Int} (hP : WFP P) (he : PEq P P') (hs : SEq τ β P s s') (h0 : 0 ≤ r) (hr : r < P 0 0) : lwAt l P s r = lwAt l P' s' r := by
  have h8 := hP.1
  unfold lwAt
  have h1 := hs.1 r h0 (by omega)
  rw [(he.2.2.1 r h0 hr).2.1, h1.1, h1.2, abv_cong (up' := P' 8) (W' := s' 0) (b := P 0 0) (fun r a b => (hP.2.1 r a b).2.2.2.2.2.2.2.1) (fun r a b => (hs.1 r a (by omega)).1) (fun r a b => (he.2.2.1 r a b).2.2.2.2.2.2) 8 r h0 hr]
theorem WFP.of {P P' : Fn2} (hP : WFP P) (he : PEq P P') (hup : ∀ r, 0 ≤ r → r < P 0 0 → -2 ≤ P' 8 r) : WFP P' := by
  obtain ⟨h1, h2, h3⟩ := hP
  obtain ⟨e1, e2, e3, e4⟩ := he
  refine ⟨by omega, fun r a b => ?_, fun j a b => ?_⟩
  · have := h2 r a (by omega)
    have := e3 r a (by omega)
    have := hup r a (by omega)
    omega
  · have := h3 j a (by omega)
    have := e4 j a (by omega)
    omega
theorem fillS_cong {τ β : Prop} {P P' s s' : Fn2} {cw r : Int} {Cl Cl' : Int → Int} (hP : WFP P) (he : PEq P P') (hs : SEq τ β P s s') (h0 : 0 ≤ r) (hr : r < P 0 0) (hC : Cl r = Cl' r) : SEq τ β P (fillS P cw Cl r s) (fillS P' cw Cl' r s') := by
  have h8 := hP.1
  have h1 := hs.1 r h0 (by omega)
  have h2 := he.2.2.1 r h0 hr
  unfold fillS
  rw [h1.1, h1.2, h2.2.2.1, h2.2.2.2.2.1, h2.2.2.2.2.2.1, hC]
  exact (hs.put rfl rfl).o9 (Or.inr ⟨by omega, fun hb => by rw [(hs.2.2.2 hb).1]⟩)
theorem joinS_cong {τ β : Prop} {P P' s s' : Fn2} {j : Int} (hP : WFP P) (he : PEq P P') (hs : SEq τ β P s s') (h0 : 0 ≤ j) (hj : j < P 0 1) : SEq τ β P (joinS P j s) (joinS P' j s') := by
  have h8 := hP.1
  have h2 := he.2.2.2 j h0 hj
  have h3 := hP.2.2 j h0 hj
  have ea : jnA P j s = jnA P' j s' ∧ jnB P j s = jnB P' j s' := by
    unfold jnA jnB
    rw [← h2.1, ← h2.2.1, (hs.1 (P 9 j) (by omega) (by omega)).1, (hs.1 (P 10 j) (by omega) (by omega)).1]
    exact ⟨rfl, rfl⟩
  have hab := (jn_ab (P := P) (s := s) (j := j)).1
  have hb : 0 ≤ jnA P j s ∧ jnA P j s < P 0 0 ∧ 0 ≤ jnB P j s ∧ jnB P j s < P 0 0 := by
    rcases hab with ⟨h, h'⟩ | ⟨h, h'⟩ <;> rw [h, h'] <;> omega
  unfold joinS
  rw [← ea.1, ← ea.2]
  dsimp only
  have hA := hs.1 (jnA P j s) (by omega) (by omega)
  have hB := hs.1 (jnB P j s) (by omega) (by omega)
  rw [hA.1, hA.2, hB.1, h2.2.2, (he.2.2.1 (jnB P j s) (by omega) (by omega)).2.2.1]
  exact (hs.tk (by omega) (by omega)).gv (by omega) (by omega)
theorem thr_cong {τ β : Prop} {P P' : Fn2} {many : Int} (hP : WFP P) (he : PEq P P') : ∀ (f : Nat) (u u' : Int) (s s' : Fn2), (u = u' ∨ u < 0 ∧ u' < 0) → u < P 0 0 → SEq τ β P s s' → SEq τ β P (thrS P many f u s) (thrS P' many f u' s')
  | 0, u, u', s, s', hu, hb, hs => hs
  | f + 1, u, u', s, s', hu, hb, hs => by
    have h8 := hP.1
    unfold thrS
    by_cases hc : u < 0 ∨ many ≤ 0
    · rw [if_pos hc, if_pos (by omega)]; exact hs
    · have : u = u' := by omega
      subst this
      rw [if_neg hc, if_neg hc]
      have h0 : 0 ≤ u := by omega
      have h1 := hs.1 u h0 (by omega)
      have h2 := hs.2.1 u h0 hb
      have h3 := he.2.2.1 u h0 hb
      have hup := (hP.2.1 u h0 hb).2.2.2.2.2.2.2.1
      dsimp only
      rw [← h1.1, ← h1.2, ← h2]
      have ht : SEq τ β P (tkS u (min (min many (s 0 u)) (s 2 u)) (st2 s 3 u (max (s 3 u) (min many (s 0 u))))) (tkS u (min (min many (s 0 u)) (s 2 u)) (st2 s' 3 u (max (s' 3 u) (min many (s 0 u))))) := hs.o3.tk h0 (by omega)
      generalize tkS u (min (min many (s 0 u)) (s 2 u)) (st2 s 3 u (max (s 3 u) (min many (s 0 u)))) = t at *
      generalize tkS u (min (min many (s 0 u)) (s 2 u)) (st2 s' 3 u (max (s' 3 u) (min many (s 0 u)))) = t' at *
      generalize min (min many (s 0 u)) (s 2 u) = g at *
      generalize s 1 u * g / s 0 u = sh
      have ek : (if P 8 u < 0 then 0 else min g (P 4 (P 8 u) - t 0 (P 8 u))) = (if P' 8 u < 0 then 0 else min g (P' 4 (P' 8 u) - t' 0 (P' 8 u))) := by
        rcases h3.2.2.2.2.2.2 with e | ⟨e1, e2⟩
        · rw [← e]
          by_cases hz : P 8 u < 0
          · rw [if_pos hz, if_pos hz]
          · rw [if_neg hz, if_neg hz, (he.2.2.1 (P 8 u) (by omega) (by omega)).2.2.1, (ht.1 (P 8 u) (by omega) (by omega)).1]
        · rw [if_pos e1, if_pos e2]
      rw [← ek]
      have hk3 : 0 < (if P 8 u < 0 then 0 else min g (P 4 (P 8 u) - t 0 (P 8 u))) → P 8 u = P' 8 u ∧ ¬ P 8 u < 0 := by
        by_cases hz : P 8 u < 0
        · rw [if_pos hz]; omega
        · intro _; exact ⟨by omega, hz⟩
      generalize (if P 8 u < 0 then 0 else min g (P 4 (P 8 u) - t 0 (P 8 u))) = kk at *
      have ht2 : SEq τ β P (st2 (st2 t 9 15 (t 9 15 + (g - kk))) 9 17 (t 9 17 + (g - kk))) (st2 (st2 t' 9 15 (t' 9 15 + (g - kk))) 9 17 (t' 9 17 + (g - kk))) := (ht.o9 (Or.inl ⟨rfl, fun hb => by rw [ht.2.2.1 hb]⟩)).o9 (Or.inr ⟨by omega, fun hb => by rw [(ht.2.2.2 hb).2.1]⟩)
      refine thr_cong hP he f (P 8 u) (P' 8 u) _ _ (by omega) (by omega) ?_
      by_cases hk : 0 < kk
      · rw [if_pos hk, if_pos hk, ← (hk3 hk).1]
        have := (hk3 hk).2
        exact ht2.gv (by omega) (by omega)
      · rw [if_neg hk, if_neg hk]; exact ht2
theorem stmS_cong {τ β : Prop} {P P' s s' : Fn2} {r : Int} {Bl Bl' Lf Lf' St St' : Int → Int} (hP : WFP P) (he : PEq P P') (hs : SEq τ β P s s') (h0 : 0 ≤ r) (hr : r < P 0 0) (hB : Bl r = Bl' r) (hL : Lf r = Lf' r) (hS : St r = St' r) : SEq τ β P (stmS P Bl Lf St r s) (stmS P' Bl' Lf' St' r s') := by
  have h8 := hP.1
  have h1 := hs.1 r h0 (by omega)
  have h3 := he.2.2.1 r h0 hr
  have hup := (hP.2.1 r h0 hr).2.2.2.2.2.2.2.1
  unfold stmS
  dsimp only
  rw [← h1.1, ← h1.2, ← hB, ← hL, ← hS]
  exact thr_cong hP he 8 _ _ _ _ (by omega) (by omega) ((hs.put rfl rfl).o9 (Or.inr ⟨by omega, fun hb => by rw [(hs.2.2.2 hb).2.2]⟩))
theorem poolS_cong {τ β : Prop} {P P' s s' : Fn2} {r : Int} (hP : WFP P) (he : PEq P P') (hs : SEq τ β P s s') (h0 : 0 ≤ r) (hr : r < P 0 0) : SEq τ β P (poolS P r s) (poolS P' r s') := by
  have h8 := hP.1
  have h1 := hs.1 r h0 (by omega)
  have h3 := he.2.2.1 r h0 hr
  unfold poolS
  rw [← h1.1, ← h3.1, ← h3.2.2.1]
  by_cases hc : P 1 r = 2 ∧ P 4 r ≤ s 0 r
  · rw [if_pos hc, if_pos hc]
    exact (hs.tk h0 (by omega)).o9 (Or.inr ⟨by omega, fun hb => by rw [(hs.2.2.2 hb).2.1]⟩)
  · rw [if_neg hc, if_neg hc]; exact hs
theorem tick0_cong {τ β : Prop} {P P' s s' : Fn2} {L : Nat → Lw4} {cw jn : Int} (hP : WFP P) (he : PEq P P') (hs : SEq τ β P s s') : SEq True β P (tick0 P L cw jn s) (tick0 P' L cw jn s') := by
  have h8 := hP.1
  have er : rms P' = rms P := by unfold rms; rw [he.1]
  have ej : jns P' = jns P := by unfold jns; rw [he.2.1]
  have e1 := rms_e hP
  have e2 := jns_e hP
  have hs0 : SEq True β P (st2 s 9 15 0) (st2 s' 9 15 0) := hs.t0
  have h1 : SEq True β P (fillA P L cw (st2 s 9 15 0)) (fillA P' L cw (st2 s' 9 15 0)) := by
    unfold fillA
    rw [er]
    exact lp_rel (SEq True β P) (a := 0) (b := P 0 0) (fun i x y a b hxy => fillS_cong (r := i) hP he hxy a b (lwAt_cong (r := i) hP he hs0 a b)) (rms P) 0 _ _ (by omega) (by omega) hs0
  have h2 : SEq True β P (joinA P jn (fillA P L cw (st2 s 9 15 0))) (joinA P' jn (fillA P' L cw (st2 s' 9 15 0))) := by
    unfold joinA
    by_cases hj : jn = 0
    · rw [if_pos hj, if_pos hj]; exact h1
    · rw [if_neg hj, if_neg hj, ej]
      exact lp_rel (SEq True β P) (a := 0) (b := P 0 1) (fun i x y a b hxy => joinS_cong (j := i) hP he hxy a b) (jns P) 0 _ _ (by omega) (by omega) h1
  have h3 : SEq True β P (spoutA P L (joinA P jn (fillA P L cw (st2 s 9 15 0)))) (spoutA P' L (joinA P' jn (fillA P' L cw (st2 s' 9 15 0)))) := by
    unfold spoutA
    rw [er]
    refine lpd_rel (SEq True β P) (rms P) _ _ (fun i x y hi hxy => ?_) h2
    refine stmS_cong hP he hxy (by omega) (by omega) (lwAt_cong hP he h2 (by omega) (by omega)) (lwAt_cong hP he h2 (by omega) (by omega)) ?_
    unfold stmR
    have h4 := h2.1 i (by omega) (by omega)
    rw [lwAt_cong hP he h2 (by omega) (by omega), h4.1, h4.2]
  unfold tick0 poolA
  rw [er]
  exact lp_rel (SEq True β P) (a := 0) (b := P 0 0) (fun i x y a b hxy => poolS_cong (r := i) hP he hxy a b) (rms P) 0 _ _ (by omega) (by omega) h3
theorem led_cong {τ β : Prop} {P P' s s' : Fn2} {lr lg : Int} (hP : WFP P) (he : PEq P P') (hs : SEq τ β P s s') : SEq τ β P (ledA P lr lg s) (ledA P' lr lg s') := by
  have h8 := hP.1
  unfold ledA
  rw [← he.1]
  by_cases hc : 0 ≤ lr ∧ lr < P 0 0
  · rw [if_pos hc, if_pos hc, (hs.1 lr hc.1 (by omega)).1]
    exact hs.tk hc.1 (by omega)
  · rw [if_neg hc, if_neg hc]; exact hs
theorem tick_cong {τ β : Prop} {P P' s s' : Fn2} {L : Nat → Lw4} {cw jn lr lg : Int} (hP : WFP P) (he : PEq P P') (hs : SEq τ β P s s') : SEq True β P (tickA P L cw jn lr lg s) (tickA P' L cw jn lr lg s') := led_cong hP he (tick0_cong hP he hs)
/-- all empty, the wides as w says -/
def zeroS (w : Int → Int) : Fn2 := fun i r => if i = 2 then w r else 0
def itS (f : Fn2 → Fn2) : Nat → Fn2 → Fn2
  | 0, s => s
  | n + 1, s => f (itS f n s)
theorem itS_add {f : Fn2 → Fn2} {n : Nat} {s : Fn2} : ∀ m, itS f (m + n) s = itS f m (itS f n s)
  | 0 => by rw [Nat.zero_add]; rfl
  | m + 1 => by
    rw [show m + 1 + n = (m + n) + 1 by omega]
    show f (itS f (m + n) s) = f (itS f m (itS f n s))
    rw [itS_add m]
/-- a course: n seconds from all empty -/
def runS (P : Fn2) (L : Nat → Lw4) (cw jn lr lg : Int) (w : Int → Int) (n : Nat) : Fn2 := itS (tickA P L cw jn lr lg) n (zeroS w)
theorem run_cong {τ β : Prop} {P P' : Fn2} {L : Nat → Lw4} {cw jn lr lg : Int} {w w' : Int → Int} (hP : WFP P) (he : PEq P P') (hw : ∀ r, 0 ≤ r → r < P 0 0 → w r = w' r) : ∀ n, SEq τ β P (runS P L cw jn lr lg w n) (runS P' L cw jn lr lg w' n)
  | 0 => ⟨fun _ _ _ => ⟨rfl, rfl⟩, fun r a b => by simpa [runS, itS, zeroS] using hw r a b, fun _ => rfl, fun _ => ⟨rfl, rfl, rfl⟩⟩
  | n + 1 => (tick_cong hP he (run_cong (τ := True) (β := β) hP he hw n)).weak (fun _ => trivial) id
theorem tick_led0 {P s : Fn2} {L : Nat → Lw4} {cw jn : Int} {lr lg : Int} (h : lr < 0) : tickA P L cw jn lr lg s = tick0 P L cw jn s := by
  unfold tickA ledA
  rw [if_neg (by omega)]
/-- what a course keeps, n seconds on -/
theorem iv_run {P : Fn2} {L : Nat → Lw4} {cw jn lr lg : Int} {w : Int → Int} (hP : WFP P) (hL : WFL L) (hc : 0 ≤ cw) (hc' : cw ≤ 99) (hl : 0 ≤ lg) (hw : ∀ r, 0 ≤ r → r < P 0 0 → 0 ≤ w r ∧ w r ≤ 30) : ∀ n : Nat, Iv P (19512 * n) 1920 (240 * n) (2712 * n) (792 * n) (runS P L cw jn lr lg w n)
  | 0 => by
    refine ⟨⟨fun r a b => ⟨by simp [runS, itS, zeroS], by simp [runS, itS, zeroS], fun h => ?_, fun h => ⟨rfl, rfl⟩⟩, fun r a b => ?_⟩, ?_, ?_⟩
    · have := hP.2.1 r a h
      show (0 : Int) ≤ P 4 r
      omega
    · have := hw r a b
      simp [runS, itS, zeroS]; exact this
    · have e : pot (runS P L cw jn lr lg w 0) = 0 := by
        unfold pot; simp [sm, pp, runS, itS, zeroS]
      rw [e]; simp
    · simp [Bk, runS, itS, zeroS]
  | n + 1 => by
    have := iv_tick (jn := jn) (lr := lr) (iv_run (jn := jn) (lr := lr) hP hL hc hc' hl hw n) hP hL hc hc' hl
    exact this.mono (by omega) (by omega) (by omega) (by omega) (by omega)
