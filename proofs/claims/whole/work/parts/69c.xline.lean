/-! THE REFERENCE READS JOINS AND LINES -/
theorem x_joined {X : Int × (Int → Int)} {k : Nat} {Q : Vv → Fn2 → Fn2 → Fn2 → Prop} {F A R : Fn2} {g : Int → Int} {n p b but : Int} {S : Sp} {rs : Rs} {f : Int → Int → Rs} (ht : TxX g n A R) (hs : Sa flS g n p rs (pJd g n S but p f) F) (hb : F 373 26 = b) (b0 : 0 ≤ b) (b5 : b < 5) (hX : F 373 4 = 0 → SpX b S A) (hW : WfS S)
    (hq : ∀ F' u p', Sa flS g n p' rs (f u p') F' → (F' 373 4 = 0 → 0 ≤ u ∧ u < S.1 0 0 ∧ u ≠ but) → FG4 F F' → Q (vI u) F' A R) : Wp X (k + 4) m_X11_joined [vA 373, vI but] F A R Q := by
  have hR := ht.1
  have hk := hs.2.2.1
  have h0 := hW.1.1.1
  refine Wp.of [vA 373, vI but, vN] rfl rfl rfl (b_X11_joined_0 (x_good (k := k + 2) (fun hg => b_X11_joined_4 ⟨fun _ => ?_, fun h => absurd h (by decide)⟩) (fun hg => b_X11_joined_4 ⟨fun h => absurd rfl h, fun _ => ?_⟩)))
  · have fb := fnd_b (S := S) (w := tW g n p) h0
    have bad : ∀ (F1 : Fn2) (u : Int) c, Sa flS g n p rs c F1 → 0 < F1 373 4 → FX4 F F1 → G X (k + 3) m_X11_joined Q 60 [vA 373, vI but, vI u] [] F1 A R := fun F1 u c s1 h1 f1 => b_X11_joined_60 (x_good (k := k + 2) (fun z => by omega) (fun _ => b_X11_joined_64 ⟨fun _ => b_X11_joined_71 (hq F1 u p (s1.any _ h1) (fun z => by omega) ⟨f1, fun z => by omega⟩), fun h => absurd rfl h⟩))
    unfold pJd at hs
    refine x_named (k := k + 2) hR hk hb b0 b5 (hX hg) hW (b_X11_joined_13 ?_)
    rw [hk.2.2.2.1, tT_2]
    refine ⟨fun e23 => ?_, fun n23 => ?_⟩
    · rw [if_pos e23] at hs ⊢
      refine ⟨fun hge => ?_, fun hlt => ?_⟩
      · rw [if_neg (by omega)] at hs
        refine ⟨fun hne => ?_, fun he => ?_⟩
        · rw [if_neg hne] at hs
          exact b_X11_joined_60 (x_good (k := k + 2) (fun _ => b_X11_joined_64 ⟨fun h => absurd h (by decide), fun _ => hs.next (k := k + 1) ht hg (fun F2 e1 e2 e3 => b_X11_joined_71 (hq F2 _ _ e1 (fun _ => ⟨by omega, by omega, hne⟩) ⟨e3.x4, fun _ => hg⟩))⟩) (fun z => absurd hg z))
        · rw [if_pos he] at hs
          exact x_failsS (k := k + 2) (f 0 0) (by decide) hs (fun F' e1 e2 e3 => bad F' _ _ e1 e2 e3)
      · rw [if_pos (by omega)] at hs
        exact x_failsS (k := k + 2) (f 0 0) (by decide) hs (fun F' e1 e2 e3 => b_X11_joined_42 (bad F' _ _ e1 e2 e3))
    · rw [if_neg n23] at hs
      exact x_wrong (k := k + 1) (f 0 0) hs (fun F' e1 e2 e3 => b_X11_joined_26 (bad F' _ _ e1 e2 e3))
  · have := hs.nn
    exact hq F 0 p (hs.any _ (by omega)) (fun z => absurd z hg) FG4.refl
theorem addJ_X {b a c w : Int} {S : Sp} {A A' : Fn2} (hX : SpX b S A) (hA : A' = st2 A 378 b (S.1 0 1 + 1)) (h9 : A 386 (4 * b + S.1 0 1) = a) (h10 : A 387 (4 * b + S.1 0 1) = c) (h11 : A 388 (4 * b + S.1 0 1) = w) : SpX b (addJ S a c w) A' := by
  obtain ⟨x1, x2, x3, x4⟩ := hX
  subst hA
  refine ⟨by rw [st2_n (by decide), x1]; rfl, by rw [st2_s, u1_s]; rfl, fun r r0 r1 => ?_, fun j j0 j1 i i0 i1 => ?_⟩
  · obtain ⟨y1, y2, y3, y4⟩ := x3 r r0 r1
    rw [st2_n (by decide), st2_n (by decide), st2_n (by decide), addJ_n (i := 1) (by decide) (Or.inr (by decide)), addJ_n (i := 8) (by decide) (Or.inr (by decide))]
    exact ⟨y1, fun i a e => by rw [addJ_n (by omega) (Or.inr (by omega)), st2_n (by omega)]; exact y2 i a e, y3, y4⟩
  · rw [addJ_0.2] at j1
    rw [st2_n (by omega)]
    by_cases ej : j = S.1 0 1
    · subst ej
      rw [addJ_s i0]
      have hi : i = 9 ∨ i = 10 ∨ i = 11 := by omega
      rcases hi with hi | hi | hi <;> subst hi
      · exact h9
      · exact h10
      · exact h11
    · rw [addJ_n (by omega) (Or.inl ej)]; exact x4 j j0 (by omega) i i0 i1
theorem x_rdJoin {X : Int × (Int → Int)} {k : Nat} {Q : Vv → Fn2 → Fn2 → Fn2 → Prop} {F A R : Fn2} {g : Int → Int} {n p b : Int} {S : Sp} {rs : Rs} {f : Sp → Int → Rs} (ht : TxX g n A R) (hs : Sa flS g n p rs (pJoin g n S p f) F) (hb : F 373 26 = b) (b0 : 0 ≤ b) (b5 : b < 5) (hX : SpX b S A) (hW : WfS S) (h4 : S.1 0 1 < 4)
    (hq : ∀ F' A' S' p', Sa flS g n p' rs (pTk flS g n 59 p' (f S')) F' → (F' 373 4 = 0 → SpX b S' A' ∧ WfS S' ∧ S'.1 0 0 = S.1 0 0 ∧ S'.1 0 1 = S.1 0 1 + 1) → FG4 F F' → FA b A A' → Q vN F' A' R) : Wp X (k + 5) m_X11_readJoin [vA 373] F A R Q := by
  have hR := ht.1
  have h0 := hW.1.1
  refine Wp.of [vA 373, vN] rfl rfl rfl (b_X11_readJoin_0 hR ?_)
  rw [hb, hX.2.1]
  refine ⟨by omega, b0, b5, by omega, fun g1 hg1 => ?_⟩
  subst hg1
  refine x_joined (k := k) ht hs hb b0 b5 (fun _ => hX) hW (fun F1 a p1 s1 c1 f1 => b_X11_readJoin_27 hR (by decide +kernel) (show Y1.2.1 386 = 20 by decide +kernel) ⟨by omega, by omega, fun A1 hA1 => ⟨by omega, by omega, ?_⟩⟩)
  have X1 : SpX b S A1 := by rw [hA1]; exact hX.stJ (by decide)
  have Z1 : FA b A A1 := by rw [hA1]; exact FA.st (by omega)
  have T1 := ht.fa Z1
  have e1 : A1 386 (4 * b + S.1 0 1) = a := by rw [hA1, st2_s, u1_s]
  rw [e1]
  have b1 : F1 373 26 = b := by rw [f1.1 373 26 (by omega), hb]
  refine x_joined (k := k) T1 s1 b1 b0 b5 (fun _ => X1) hW (fun F2 c p2 s2 c2 f2 => b_X11_readJoin_43 (by decide +kernel) (show Y1.2.1 387 = 20 by decide +kernel) ⟨by omega, by omega, fun A2 hA2 => ?_⟩)
  have X2 : SpX b S A2 := by rw [hA2]; exact X1.stJ (by decide)
  have Z2 : FA b A A2 := Z1.trans (by rw [hA2]; exact FA.st (by omega))
  have T2 := ht.fa Z2
  have go : ∀ s, (s ≠ 0 ↔ tK g n p2 = 5) → G X (k + 4) m_X11_readJoin Q 52 [vA 373, vI (4 * b + S.1 0 1)] [vI s, vA 373] F2 A2 R := fun s hsb => by
    refine b_X11_readJoin_52 (x_must (k := k + 1) T2 s2 hsb (fun F3 p3 s3 f3 _ => b_X11_readJoin_55 hR ?_))
    refine x_num (k := k + 1) T2 s3 (fun F4 w p4 s4 c4 f4 => b_X11_readJoin_67 hR (by decide +kernel) (show Y1.2.1 388 = 20 by decide +kernel) ⟨by omega, by omega, fun A3 hA3 => ?_⟩)
    have b4 : F4 373 26 = b := by rw [f4.1 373 26 (by omega), f3.1 373 26 (by omega), f2.1 373 26 (by omega), b1]
    have X3 : SpX b S A3 := by rw [hA3]; exact X2.stJ (by decide)
    have Z3 : FA b A A3 := Z2.trans (by rw [hA3]; exact FA.st (by omega))
    rw [b4, X3.2.1]
    refine ⟨b0, b5, by omega, fun A4 hA4 => ?_⟩
    refine hq F4 A4 (addJ S a c w) p4 s4 (fun hg4 => ?_) (((f1.trans f2).trans f3).trans f4) (Z3.trans (by rw [hA4]; exact FA.st (by omega)))
    have y1 := c1 (f2.2 (f3.2 (f4.2 hg4)))
    have y2 := c2 (f3.2 (f4.2 hg4))
    have y4 := c4 hg4
    refine ⟨addJ_X X3 hA4 ?_ ?_ ?_, addJ_W hW h4 y1.1 y1.2.1 y2.1 y2.2.1 y2.2.2 y4.1 y4.2, rfl, rfl⟩
    · rw [hA3, st2_n (by decide), hA2, st2_n (by decide), e1]
    · rw [hA3, st2_n (by decide), hA2, st2_s, u1_s]
    · rw [hA3, st2_s, u1_s]
  exact x_isWord (k := k + 3) 5 s2.2.2.1 (by decide) rfl (fun e => go 1 ⟨fun _ => e, fun _ => by decide⟩) (fun e => go 0 ⟨fun h => absurd rfl h, fun h => absurd h e⟩)
theorem x_line {X : Int × (Int → Int)} {k : Nat} {Q : Vv → Fn2 → Fn2 → Fn2 → Prop} {F A R : Fn2} {g : Int → Int} {n p b : Int} {S : Sp} {rs : Rs} {f : Sp → Int → Rs} (ht : TxX g n A R) (hs : Sa flS g n p rs (if tK g n p ≤ 2 ∧ S.1 0 0 < 8 then pRoom g n S (tK g n p) (tE g n p) f else if tK g n p = 10 ∧ S.1 0 1 < 4 then pJoin g n S (tE g n p) f else rfs flS g n p 2) F) (hg : F 373 4 = 0) (hb : F 373 26 = b) (b0 : 0 ≤ b) (b5 : b < 5) (hX : SpX b S A) (hW : WfS S)
    (hq : ∀ F' A' S' p', Sa flS g n p' rs (f S' p') F' → (F' 373 4 = 0 → SpX b S' A' ∧ WfS S' ∧ S'.1 0 0 + S'.1 0 1 = S.1 0 0 + S.1 0 1 + 1) → FG4 F F' → FA b A A' → Q vN F' A' R) : Wp X (k + 6) m_X11_readLine [vA 373] F A R Q := by
  have hR := ht.1
  have hk := hs.2.2.1
  have h0 := hW.1.1
  have k0 := tK_0 (g := g) (n := n) (p := p)
  -- the line's end
  have tail : ∀ (F1 A1 : Fn2) (S' : Sp) (p1 x1 x2 : Int), Sa flS g n p1 rs (pTk flS g n 59 p1 (f S')) F1 → (F1 373 4 = 0 → SpX b S' A1 ∧ WfS S' ∧ S'.1 0 0 + S'.1 0 1 = S.1 0 0 + S.1 0 1 + 1) → FG4 F F1 → FA b A A1 → G X (k + 5) m_X11_readLine Q 127 [vA 373, vI x1, vI x2] [] F1 A1 R := fun F1 A1 S' p1 x1 x2 s1 c1 f1 z1 => by
    have go : ∀ s, (s ≠ 0 ↔ tK g n p1 = 59) → G X (k + 5) m_X11_readLine Q 134 [vA 373, vI x1, vI x2] [vI s, vA 373] F1 A1 R := fun s hsb => b_X11_readLine_134 (x_must (k := k + 2) (ht.fa z1) s1 hsb (fun F2 p2 s2 f2 _ => b_X11_readLine_137 (hq F2 A1 S' p2 s2 (fun z => c1 (f2.2 z)) (f1.trans f2) z1)))
    exact b_X11_readLine_127 (x_is (k := k + 3) (ht.fa z1) s1.1 s1.2.1 s1.2.2.1 (by decide) (fun e => go 1 ⟨fun _ => e, fun _ => by decide⟩) (fun e => go 0 ⟨fun h => absurd rfl h, fun h => absurd h e⟩))
  have bad : ∀ (F1 : Fn2) c x1 x2, Sa flS g n p rs c F1 → 0 < F1 373 4 → FX4 F F1 → G X (k + 5) m_X11_readLine Q 99 [vA 373, vI x1, vI x2] [] F1 A R := fun F1 c x1 x2 s1 h1 f1 => b_X11_readLine_99 (x_good (k := k + 4) (fun z => by omega) (fun _ => b_X11_readLine_103 ⟨fun h => absurd rfl h, fun _ => hq F1 A S p (s1.any _ h1) (fun z => by omega) ⟨f1, fun z => by omega⟩ FA.refl⟩))
  have wr : ∀ x1 x2, ¬ (tK g n p ≤ 2 ∧ S.1 0 0 < 8) → ¬ (tK g n p = 10 ∧ S.1 0 1 < 4) → Wp X (k + 5) m_X11_wrong [vA 373] F A R (fun v F A R => G X (k + 5) m_X11_readLine Q 99 [vA 373, vI x1, vI x2] [] F A R) := fun x1 x2 h1 h2 => by
    rw [if_neg h1, if_neg h2] at hs
    exact x_wrong (k := k + 3) (f S 0) hs (fun F' e1 e2 e3 => bad F' _ x1 x2 e1 e2 e3)
  have nx : ∀ x1 x2 c, Sa flS g n p rs c F → (∀ F1, Sa flS g n (tE g n p) rs c F1 → F1 373 4 = 0 → FG4 F F1 → G X (k + 5) m_X11_readLine Q 111 [vA 373, vI x1, vI x2] [] F1 A R) → G X (k + 5) m_X11_readLine Q 99 [vA 373, vI x1, vI x2] [] F A R := fun x1 x2 c s1 h => b_X11_readLine_99 (x_good (k := k + 4) (fun _ => b_X11_readLine_103 ⟨fun _ => s1.next (k := k + 3) ht hg (fun F1 e1 e2 e3 => h F1 e1 e2 ⟨e3.x4, fun _ => hg⟩), fun h => absurd h (by decide)⟩) (fun z => absurd hg z))
  -- a room
  have rm : ∀ x2, tK g n p = x2 → x2 ≤ 2 → G X (k + 5) m_X11_readLine Q 60 [vA 373, vI 0, vI x2] [] F A R := fun x2 e2 hx => by
    refine b_X11_readLine_60 hR ?_
    rw [hb, hX.1]
    refine ⟨fun _ => ⟨fun h => absurd rfl h, fun _ => ⟨b0, b5, fun hne => ?_, fun he => wr 0 x2 (by omega) (by omega)⟩⟩, fun h => absurd rfl h⟩
    rw [if_pos (by omega)] at hs
    refine nx 0 x2 _ hs (fun F1 s1 g1 f1 => b_X11_readLine_111 ⟨fun _ => ?_, fun h => absurd rfl h⟩)
    rw [e2] at s1
    exact x_rdRoom (k := k) ht s1 g1 (by rw [f1.1 373 26 (by omega), hb]) b0 b5 hX hW (by omega) (fun F' A' S' p' s2 c2 f2 z2 => tail F' A' S' p' 0 x2 s2 (fun z => by have := c2 z; exact ⟨this.1, this.2.1, by omega⟩) (f1.trans f2) z2)
  -- a join
  have jn : tK g n p = 10 → G X (k + 5) m_X11_readLine Q 60 [vA 373, vI 1, vI (-1)] [] F A R := fun e10 => by
    refine b_X11_readLine_60 hR ?_
    rw [hb, hX.2.1]
    refine ⟨fun h => absurd h (by decide), fun _ => ⟨b0, b5, fun he => wr 1 (-1) (by omega) (by omega), fun hne => ⟨fun _ => ?_, fun h => absurd h (by decide)⟩⟩⟩
    rw [if_neg (by omega), if_pos (by omega)] at hs
    refine nx 1 (-1) _ hs (fun F1 s1 g1 f1 => b_X11_readLine_111 ⟨fun h => absurd h (by decide), fun _ => ?_⟩)
    exact x_rdJoin (k := k) ht s1 (by rw [f1.1 373 26 (by omega), hb]) b0 b5 hX hW (by omega) (fun F' A' S' p' s2 c2 f2 z2 => b_X11_readLine_119 (tail F' A' S' p' 1 (-1) s2 (fun z => by have := c2 z; exact ⟨this.1, this.2.1, by omega⟩) (f1.trans f2) z2))
  have nj : ∀ x1, (x1 ≠ 0 ↔ tK g n p = 10) → x1 = 0 ∨ x1 = 1 → G X (k + 5) m_X11_readLine Q 7 [vA 373, vN, vN] [vI x1] F A R := fun x1 hx h01 => by
    refine b_X11_readLine_7 (x_isWord (k := k + 4) 0 hk (by decide) rfl (fun e0 => b_X11_readLine_15 ⟨fun h => absurd h (by decide), fun _ => ?_⟩) (fun n0 => b_X11_readLine_15 ⟨fun _ => ?_, fun h => absurd rfl h⟩))
    · have e0' : tK g n p = 0 := e0
      have : x1 = 0 := by omega
      subst this
      exact ⟨fun h => absurd rfl h, fun _ => rm 0 e0' (by decide)⟩
    refine x_isWord (k := k + 4) 1 hk (by decide) rfl (fun e1 => b_X11_readLine_29 ⟨fun h => absurd h (by decide), fun _ => ?_⟩) (fun n1 => b_X11_readLine_29 ⟨fun _ => ?_, fun h => absurd rfl h⟩)
    · have e1' : tK g n p = 1 := e1
      have : x1 = 0 := by omega
      subst this
      exact ⟨fun h => absurd rfl h, fun _ => rm 1 e1' (by decide)⟩
    have n0' : ¬ tK g n p = 0 := n0
    have n1' : ¬ tK g n p = 1 := n1
    refine x_isWord (k := k + 4) 2 hk (by decide) rfl (fun e2 => b_X11_readLine_43 ⟨fun h => absurd h (by decide), fun _ => ?_⟩) (fun n2 => b_X11_readLine_43 ⟨fun _ => ⟨fun h1 => ?_, fun h0 => ?_⟩, fun h => absurd rfl h⟩)
    · have e2' : tK g n p = 2 := e2
      have : x1 = 0 := by omega
      subst this
      exact ⟨fun h => absurd rfl h, fun _ => rm 2 e2' (by decide)⟩
    · have : x1 = 1 := by omega
      subst this
      exact jn (hx.1 (by decide))
    · have n2' : ¬ tK g n p = 2 := n2
      exact wr x1 (-1) (by omega) (by omega)
  exact Wp.of [vA 373, vN, vN] rfl rfl rfl (b_X11_readLine_0 (x_isWord (k := k + 4) 10 hk (by decide) rfl (fun e => nj 1 ⟨fun _ => e, fun _ => by decide⟩ (Or.inr rfl)) (fun e => nj 0 ⟨fun h => absurd rfl h, fun h => absurd h e⟩ (Or.inl rfl))))
theorem x_lines {X : Int × (Int → Int)} {k : Nat} {Q : Vv → Fn2 → Fn2 → Fn2 → Prop} {R : Fn2} {g : Int → Int} {n b : Int} {rs : Rs} {F0 A0 : Fn2} {x1 : Int} (ht : TxX g n A0 R) (hb : F0 373 26 = b) (b0 : 0 ≤ b) (b5 : b < 5) (hq1 : ∀ F' A' S', rs = okS S' → F' 373 4 = 0 → F' 373 5 = -1 → SpX b S' A' → WfS S' → FG4 F0 F' → FA b A0 A' → G X (k + 6) m_X11_spring Q 71 [vA 373, vI x1] [vI 1] F' A' R) (hq0 : ∀ F' A', rs = flS (F' 373 4) (F' 373 5) → 0 < F' 373 4 → FG4 F0 F' → FA b A0 A' → G X (k + 6) m_X11_spring Q 71 [vA 373, vI x1] [vI 0] F' A' R) : ∀ (m : Nat) (F A : Fn2) (S : Sp) (p : Int), Sa flS g n p rs (pLines g n m S p) F → (F 373 4 = 0 → SpX b S A ∧ WfS S ∧ S.1 0 0 + S.1 0 1 + m = 13) → FG4 F0 F → FA b A0 A → G X (k + 6) m_X11_spring Q 46 [vA 373, vI x1] [] F A R := by
  intro m
  have bad : ∀ (F A : Fn2) c p, Sa flS g n p rs c F → ¬ F 373 4 = 0 → FG4 F0 F → FA b A0 A → G X (k + 6) m_X11_spring Q 46 [vA 373, vI x1] [] F A R := fun F A c p s1 h1 f1 z1 => by
    have hn := s1.nn
    refine b_X11_spring_46 (x_good (k := k + 5) (fun z => absurd z h1) (fun _ => b_X11_spring_50 ⟨fun _ => x_good (k := k + 5) (fun z => absurd z h1) (fun _ => ?_), fun h => absurd rfl h⟩))
    rcases s1.2.2.2 with h | h
    · exact absurd h.1 h1
    · exact hq0 F A h.2 h.1 f1 z1
  induction m with
  | zero =>
    intro F A S p s1 c1 f1 z1
    by_cases hg : F 373 4 = 0
    · have := c1 hg
      have := this.2.1.1.1
      omega
    · exact bad F A _ p s1 hg f1 z1
  | succ m ih =>
    intro F A S p s1 c1 f1 z1
    by_cases hg : F 373 4 = 0
    · have hc := c1 hg
      have hk := s1.2.2.1
      refine b_X11_spring_46 (x_good (k := k + 5) (fun _ => b_X11_spring_50 ⟨fun h => absurd h (by decide), fun _ => ?_⟩) (fun z => absurd hg z))
      rw [hk.2.2.2.1, tT_0]
      have s2 : Sa flS g n p rs (if tK g n p = 20 then okS S else if tK g n p ≤ 2 ∧ S.1 0 0 < 8 then pRoom g n S (tK g n p) (tE g n p) (pLines g n m) else if tK g n p = 10 ∧ S.1 0 1 < 4 then pJoin g n S (tE g n p) (pLines g n m) else rfs flS g n p 2) F := s1
      refine ⟨fun e20 => x_good (k := k + 5) (fun _ => ?_) (fun z => absurd hg z), fun n20 => ?_⟩
      · rw [if_pos e20] at s2
        rcases s2.2.2.2 with h | h
        · exact hq1 F A S h.2.1 hg h.2.2 hc.1 hc.2.1 f1 z1
        · omega
      · rw [if_neg n20] at s2
        exact x_line (k := k) (ht.fa z1) s2 hg (by rw [f1.1 373 26 (by omega), hb]) b0 b5 hc.1 hc.2.1 (fun F' A' S' p' s3 c3 f3 z3 => b_X11_spring_64 (ih F' A' S' p' s3 (fun z => by have := c3 z; exact ⟨this.1, this.2.1, by omega⟩) (f1.trans f3) (z1.trans z3)))
    · exact bad F A _ p s1 hg f1 z1
