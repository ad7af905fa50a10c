/-! THE CLASS READS A LAW: terms, sums, both, either -/
theorem OkP_up {kd kd' : Nat} {g : Int → Int} {n p u p' u' : Int} {s : Pl} {cs seg : List Int} (hk : kd ≤ 2 ∧ kd' ≤ 2 ∨ 3 ≤ kd ∧ 3 ≤ kd') (h : OkP kd g n p s cs u p' seg u') : OkP kd' g n p s cs u p' seg u' := by
  obtain ⟨a1, a2, a3, a4, a5, a6, a7, a8⟩ := h
  exact ⟨a1, a2, a3, a4, a5, a6, fun z => a7 (by omega), fun z => a8 (by omega)⟩
/-- what goes wrong behind an operator -/
theorem OkP_bad {kd : Nat} {g : Int → Int} {n p u p1 u1 w : Int} {s : Pl} {cs seg : List Int} {r : LR} (h : OkP kd g n p s cs u p1 seg u1) (hw : rank (tK g n p1) = w) (h0 : 0 < w) (h4 : w ≠ 4) (hs : 6 < topW s ∨ topW s < w) (hr : Rn g n true (tE g n p1) ((w, -tK g n p1) :: s) (cs ++ seg) u1 r) : Rn g n true p s cs u r :=
  h.2.2.2.2.2.2.1 (Or.inr (by omega)) r (Rn_push (by omega) (by rw [hw]; exact hs) (fun z => by omega) (by rw [hw]; exact hr))
theorem PreX_0 {K c : Int} {s : Pl} : PreX 0 K ((6, c) :: s) := by
  have e : topW ((6, c) :: s) = 6 := rfl
  unfold PreX bgn
  rw [e]
  omega
theorem PreX_1 {K c : Int} {s : Pl} : PreX 1 K ((5, c) :: s) := by
  have e : topW ((5, c) :: s) = 5 := rfl
  unfold PreX bgn
  rw [e]
  omega
theorem PreX_2 {K c : Int} {s : Pl} : PreX 2 K ((4, c) :: s) := by
  have e : topW ((4, c) :: s) = 4 := rfl
  unfold PreX bgn
  rw [e]
  omega
theorem PreX_3 {K c : Int} {s : Pl} : PreX 3 K ((2, c) :: s) := by
  have e : topW ((2, c) :: s) = 2 := rfl
  unfold PreX bgn
  rw [e]
  omega
theorem PreX_4 {K c : Int} {s : Pl} : PreX 4 K ((1, c) :: s) := by
  have e : topW ((1, c) :: s) = 1 := rfl
  unfold PreX bgn
  rw [e]
  omega
theorem RdX.mono {kd mth d d' : Nat} {t : Int} (h : RdX kd mth d t) (hd : d ≤ d') : RdX kd mth d' t := fun X K Q F A R g n p o u cs s hK => h X K Q F A R g n p o u cs s (by omega)

theorem c_term {t : Int} {d : Nat} (hd : 8 ≤ d) (hU : RdX 0 m_X3_readUnit d t) : RdX 1 m_X3_readTerm (d + 1) t := by
  intro X K Q F A R g n p o u cs s hK hT hn hp hpn hk ho hL hu hu4 hc hw hpre hq1 hq0
  obtain ⟨j, rfl⟩ : ∃ j, K = j + 9 := ⟨K - 9, by omega⟩
  have ha := lawD_at ho
  have hR := hT.1
  have hoo := ho
  unfold lawD at hoo
  have hs : 6 < topW s ∨ topW s < 6 := by
    obtain ⟨_, e1, e2, e3, e4, e5⟩ := hpre
    omega
  have bad : ∀ (F' A' : Fn2) (x4 : Int) (w5 : Vv), Rn g n true p s cs u (flL (F' 2 7) (F' 2 8)) → 0 < F' 2 7 → FL o F A F' A' → G X (j + 8) m_X3_readTerm Q 10 [vA o, vA 2, vI t, vI 0, vI x4, w5] [] F' A' R := fun F' A' x4 w5 e1 e2 e3 => b_X3_readTerm_10 ha ⟨fun _ => ⟨by decide, by decide, hq0 F' A' e1 e2 e3⟩, fun _ => ⟨fun _ => ⟨by decide, by decide, hq0 F' A' e1 e2 e3⟩, fun h => absurd rfl h⟩⟩
  have lp : ∀ (m : Nat) (F1 A1 : Fn2) (p1 u1 x4 : Int) (seg : List Int) (w5 : Vv), 40 - x4 ≤ m → 0 ≤ x4 → u + 1 + x4 ≤ u1 → OkX 0 g n p s cs u p1 seg u1 → TkC g n p1 F1 → LSt o (cs ++ seg) u1 F1 A1 → FL o F A F1 A1 → G X (j + 8) m_X3_readTerm Q 10 [vA o, vA 2, vI t, vI 1, vI x4, w5] [] F1 A1 R := by
    intro m
    induction m with
    | zero =>
      intro F1 A1 p1 u1 x4 seg w5 hm h0 hux hok
      have := hok.1.2.1
      omega
    | succ m ih =>
      intro F1 A1 p1 u1 x4 seg w5 hm h0 hux hok hk1 hL1 hf1
      obtain ⟨ok, r6, r5, r2, r1⟩ := hok
      have okk : OkP 1 g n p s cs u p1 seg u1 := OkP_up (by decide) ok
      have okk' := okk
      obtain ⟨a1, a2, a3, a4, a5, a6, a7, a8⟩ := okk'
      have fin : ¬ (tK g n p1 = 42 ∨ tK g n p1 = 47) → Q (vI 1) F1 A1 R := fun hno => hq1 F1 A1 p1 seg u1 ⟨okk, fun z => rank_no.1 hno, fun z => absurd z (by decide), fun z => absurd z (by decide), fun z => absurd z (by decide)⟩ hk1 hL1 hf1
      have go : (tK g n p1 = 42 ∨ tK g n p1 = 47) → Wp X (j + 8) m_X8_goNext [vA 2] F1 A1 R (fun v F A R => G X (j + 8) m_X3_readTerm Q 49 [vA o, vA 2, vI t, vI 1, vI x4, vI (tK g n p1)] [] F A R) := by
        intro hop
        have hw6 : rank (tK g n p1) = 6 := rank_op.1 hop
        refine hk1.next (k := j + 2) (hT.fl ho hf1) (by omega) a5 (fun F2 k2 f2 _ q0 q1 => b_X3_readTerm_49 ha ?_)
        have eg := tE_gt (g := g) (p := p1) a5 (by omega)
        have hf2 := hf1.trans (f2.l (A := A1) ho)
        refine hU X (j + 8) _ F2 A1 R g n (tE g n p1) o u1 (cs ++ seg) ((6, -tK g n p1) :: s) (by omega) (hT.fl ho hf1) hn q0 q1 k2 ho (hL1.t2 ho f2) (by omega) a2 (by rw [List.length_append]; omega) ?_ ?_ (fun F3 A3 p3 seg3 u3 ok3 k3 L3 f3 => b_X3_readTerm_55 ha ?_) (fun F3 A3 e1 e2 f3 => b_X3_readTerm_55 ha ?_)
        · show (if (6 : Int) = 3 ∨ (6 : Int) = 7 then 1 else 0) + wth s = t
          rw [if_neg (by decide), hw]; omega
        · exact PreX_0
        · obtain ⟨b1, b2, b3, b4, b5, b6, b7, b8⟩ := ok3.1
          have ext := OkP_ext (kd2 := 0) (w := 6) (by decide) okk hw6 hs ok3
          have wr : Wp X (j + 8) m_X3_write [vA o, vI (-tK g n p1)] F3 A3 R (fun v F A R => G X (j + 8) m_X3_readTerm Q 63 [vA o, vA 2, vI t, vI 1, vI x4, vI (tK g n p1)] [] F A R) := by
            refine c_write (k := j + 7) hR ho (by rw [L3.2.1]; omega) (fun F4 A4 g1 g2 g3 => b_X3_readTerm_63 ha ⟨by omega, ?_⟩)
            have L4 := g1 _ _ L3 (by rw [List.length_append, List.length_append]; omega)
            refine ih F4 A4 p3 u3 (x4 + 1) (seg ++ seg3 ++ [-tK g n p1]) _ (by omega) (by omega) (by omega) ⟨OkP_up (by decide) ext, ok3.2.1, ok3.2.2.1, ok3.2.2.2.1, ok3.2.2.2.2⟩ (k3.same g2) ?_ ((hf2.trans f3).trans g3)
            rw [← List.append_assoc, ← List.append_assoc]; exact L4
          exact ⟨by omega, wr⟩
        · have wr : Wp X (j + 8) m_X3_write [vA o, vI (-tK g n p1)] F3 A3 R (fun v F A R => G X (j + 8) m_X3_readTerm Q 63 [vA o, vA 2, vI t, vI 0, vI x4, vI (tK g n p1)] [] F A R) := by
            have fx := hf2.trans f3
            refine c_write (k := j + 7) hR ho (fx.2.2 (by rw [hL.2.1]; omega)) (fun F4 A4 g1 g2 g3 => b_X3_readTerm_63 ha ⟨by omega, ?_⟩)
            have e28 : ∀ f, F4 2 f = F3 2 f := fun f => by rw [g2]
            refine bad F4 A4 _ _ ?_ (by rw [e28]; exact e2) (fx.trans g3)
            rw [e28, e28]
            exact OkP_bad okk hw6 (by decide) (by decide) hs e1
          exact ⟨by omega, wr⟩
      refine b_X3_readTerm_10 ha ⟨fun h => absurd (show x4 < 40 by omega) h, fun _ => ⟨fun h => absurd h (by decide), fun _ => ?_⟩⟩
      rw [hk1.2.2.2.1]
      exact ⟨fun h1 g1 hg1 => by subst hg1; exact go (Or.inl h1), fun n1 => ⟨fun n2 => ⟨by decide, by decide, fin (fun z => z.elim n1 n2)⟩, fun h2 g1 hg1 => by subst hg1; exact go (Or.inr h2)⟩⟩
  refine Wp.of (k := j + 8) [vA o, vA 2, vI t, vN, vN, vN] rfl rfl rfl (b_X3_readTerm_0 ha ?_)
  refine hU X (j + 8) _ F A R g n p o u cs s (by omega) hT hn hp hpn hk ho hL hu hu4 hc hw ?_ (fun F1 A1 p1 seg u1 ok1 k1 L1 f1 => b_X3_readTerm_6 ha (lp 40 F1 A1 p1 u1 0 seg _ (by decide) (by decide) (by have := ok1.1.1; omega) ok1 k1 L1 f1)) (fun F1 A1 e1 e2 f1 => b_X3_readTerm_6 ha (bad F1 A1 _ _ e1 e2 f1))
  obtain ⟨e0, e1, e2, e3, e4, e5⟩ := hpre
  refine ⟨fun z => ?_, fun z => ?_, fun z => ?_, fun z => ?_, fun z => ?_, fun z => ?_⟩ <;> (try first | exact e0 (by decide) | exact absurd z (by decide)) <;> (try omega)

theorem c_sum {t : Int} {d : Nat} (hd : 8 ≤ d) (hU : RdX 1 m_X3_readTerm d t) : RdX 2 m_X3_readSum (d + 1) t := by
  intro X K Q F A R g n p o u cs s hK hT hn hp hpn hk ho hL hu hu4 hc hw hpre hq1 hq0
  obtain ⟨j, rfl⟩ : ∃ j, K = j + 9 := ⟨K - 9, by omega⟩
  have ha := lawD_at ho
  have hR := hT.1
  have hoo := ho
  unfold lawD at hoo
  have hs : 6 < topW s ∨ topW s < 5 := by
    obtain ⟨_, e1, e2, e3, e4, e5⟩ := hpre
    omega
  have bad : ∀ (F' A' : Fn2) (x4 : Int) (w5 : Vv), Rn g n true p s cs u (flL (F' 2 7) (F' 2 8)) → 0 < F' 2 7 → FL o F A F' A' → G X (j + 8) m_X3_readSum Q 10 [vA o, vA 2, vI t, vI 0, vI x4, w5] [] F' A' R := fun F' A' x4 w5 e1 e2 e3 => b_X3_readSum_10 ha ⟨fun _ => ⟨by decide, by decide, hq0 F' A' e1 e2 e3⟩, fun _ => ⟨fun _ => ⟨by decide, by decide, hq0 F' A' e1 e2 e3⟩, fun h => absurd rfl h⟩⟩
  have lp : ∀ (m : Nat) (F1 A1 : Fn2) (p1 u1 x4 : Int) (seg : List Int) (w5 : Vv), 40 - x4 ≤ m → 0 ≤ x4 → u + 1 + x4 ≤ u1 → OkX 1 g n p s cs u p1 seg u1 → TkC g n p1 F1 → LSt o (cs ++ seg) u1 F1 A1 → FL o F A F1 A1 → G X (j + 8) m_X3_readSum Q 10 [vA o, vA 2, vI t, vI 1, vI x4, w5] [] F1 A1 R := by
    intro m
    induction m with
    | zero =>
      intro F1 A1 p1 u1 x4 seg w5 hm h0 hux hok
      have := hok.1.2.1
      omega
    | succ m ih =>
      intro F1 A1 p1 u1 x4 seg w5 hm h0 hux hok hk1 hL1 hf1
      obtain ⟨ok, r6, r5, r2, r1⟩ := hok
      have okk : OkP 2 g n p s cs u p1 seg u1 := OkP_up (by decide) ok
      have okk' := okk
      obtain ⟨a1, a2, a3, a4, a5, a6, a7, a8⟩ := okk'
      have fin : ¬ (tK g n p1 = 43 ∨ tK g n p1 = 45) → Q (vI 1) F1 A1 R := fun hno => hq1 F1 A1 p1 seg u1 ⟨okk, fun z => r6 (by decide), fun z => rank_no.2.1 hno, fun z => absurd z (by decide), fun z => absurd z (by decide)⟩ hk1 hL1 hf1
      have go : (tK g n p1 = 43 ∨ tK g n p1 = 45) → Wp X (j + 8) m_X8_goNext [vA 2] F1 A1 R (fun v F A R => G X (j + 8) m_X3_readSum Q 49 [vA o, vA 2, vI t, vI 1, vI x4, vI (tK g n p1)] [] F A R) := by
        intro hop
        have hw6 : rank (tK g n p1) = 5 := rank_op.2.1 hop
        refine hk1.next (k := j + 2) (hT.fl ho hf1) (by omega) a5 (fun F2 k2 f2 _ q0 q1 => b_X3_readSum_49 ha ?_)
        have eg := tE_gt (g := g) (p := p1) a5 (by omega)
        have hf2 := hf1.trans (f2.l (A := A1) ho)
        refine hU X (j + 8) _ F2 A1 R g n (tE g n p1) o u1 (cs ++ seg) ((5, -tK g n p1) :: s) (by omega) (hT.fl ho hf1) hn q0 q1 k2 ho (hL1.t2 ho f2) (by omega) a2 (by rw [List.length_append]; omega) ?_ ?_ (fun F3 A3 p3 seg3 u3 ok3 k3 L3 f3 => b_X3_readSum_55 ha ?_) (fun F3 A3 e1 e2 f3 => b_X3_readSum_55 ha ?_)
        · show (if (5 : Int) = 3 ∨ (5 : Int) = 7 then 1 else 0) + wth s = t
          rw [if_neg (by decide), hw]; omega
        · exact PreX_1
        · obtain ⟨b1, b2, b3, b4, b5, b6, b7, b8⟩ := ok3.1
          have ext := OkP_ext (kd2 := 1) (w := 5) (by decide) okk hw6 hs ok3
          have wr : Wp X (j + 8) m_X3_write [vA o, vI (-tK g n p1)] F3 A3 R (fun v F A R => G X (j + 8) m_X3_readSum Q 63 [vA o, vA 2, vI t, vI 1, vI x4, vI (tK g n p1)] [] F A R) := by
            refine c_write (k := j + 7) hR ho (by rw [L3.2.1]; omega) (fun F4 A4 g1 g2 g3 => b_X3_readSum_63 ha ⟨by omega, ?_⟩)
            have L4 := g1 _ _ L3 (by rw [List.length_append, List.length_append]; omega)
            refine ih F4 A4 p3 u3 (x4 + 1) (seg ++ seg3 ++ [-tK g n p1]) _ (by omega) (by omega) (by omega) ⟨OkP_up (by decide) ext, ok3.2.1, ok3.2.2.1, ok3.2.2.2.1, ok3.2.2.2.2⟩ (k3.same g2) ?_ ((hf2.trans f3).trans g3)
            rw [← List.append_assoc, ← List.append_assoc]; exact L4
          exact ⟨by omega, wr⟩
        · have wr : Wp X (j + 8) m_X3_write [vA o, vI (-tK g n p1)] F3 A3 R (fun v F A R => G X (j + 8) m_X3_readSum Q 63 [vA o, vA 2, vI t, vI 0, vI x4, vI (tK g n p1)] [] F A R) := by
            have fx := hf2.trans f3
            refine c_write (k := j + 7) hR ho (fx.2.2 (by rw [hL.2.1]; omega)) (fun F4 A4 g1 g2 g3 => b_X3_readSum_63 ha ⟨by omega, ?_⟩)
            have e28 : ∀ f, F4 2 f = F3 2 f := fun f => by rw [g2]
            refine bad F4 A4 _ _ ?_ (by rw [e28]; exact e2) (fx.trans g3)
            rw [e28, e28]
            exact OkP_bad okk hw6 (by decide) (by decide) hs e1
          exact ⟨by omega, wr⟩
      refine b_X3_readSum_10 ha ⟨fun h => absurd (show x4 < 40 by omega) h, fun _ => ⟨fun h => absurd h (by decide), fun _ => ?_⟩⟩
      rw [hk1.2.2.2.1]
      exact ⟨fun h1 g1 hg1 => by subst hg1; exact go (Or.inl h1), fun n1 => ⟨fun n2 => ⟨by decide, by decide, fin (fun z => z.elim n1 n2)⟩, fun h2 g1 hg1 => by subst hg1; exact go (Or.inr h2)⟩⟩
  refine Wp.of (k := j + 8) [vA o, vA 2, vI t, vN, vN, vN] rfl rfl rfl (b_X3_readSum_0 ha ?_)
  refine hU X (j + 8) _ F A R g n p o u cs s (by omega) hT hn hp hpn hk ho hL hu hu4 hc hw ?_ (fun F1 A1 p1 seg u1 ok1 k1 L1 f1 => b_X3_readSum_6 ha (lp 40 F1 A1 p1 u1 0 seg _ (by decide) (by decide) (by have := ok1.1.1; omega) ok1 k1 L1 f1)) (fun F1 A1 e1 e2 f1 => b_X3_readSum_6 ha (bad F1 A1 _ _ e1 e2 f1))
  obtain ⟨e0, e1, e2, e3, e4, e5⟩ := hpre
  refine ⟨fun z => ?_, fun z => ?_, fun z => ?_, fun z => ?_, fun z => ?_, fun z => ?_⟩ <;> (try first | exact e0 (by decide) | exact absurd z (by decide)) <;> (try omega)

theorem c_both {t : Int} {d : Nat} (hd : 8 ≤ d) (hU : RdX 3 m_X3_readOne d t) : RdX 4 m_X3_readBoth (d + 1) t := by
  intro X K Q F A R g n p o u cs s hK hT hn hp hpn hk ho hL hu hu4 hc hw hpre hq1 hq0
  obtain ⟨j, rfl⟩ : ∃ j, K = j + 9 := ⟨K - 9, by omega⟩
  have ha := lawD_at ho
  have hR := hT.1
  have hoo := ho
  unfold lawD at hoo
  have hs : 6 < topW s ∨ topW s < 2 := by
    obtain ⟨_, e1, e2, e3, e4, e5⟩ := hpre
    omega
  have bad : ∀ (F' A' : Fn2) (x4 : Int), Rn g n true p s cs u (flL (F' 2 7) (F' 2 8)) → 0 < F' 2 7 → FL o F A F' A' → G X (j + 8) m_X3_readBoth Q 10 [vA o, vA 2, vI t, vI 0, vI x4] [] F' A' R := fun F' A' x4  e1 e2 e3 => b_X3_readBoth_10 ha ⟨fun _ => ⟨by decide, by decide, hq0 F' A' e1 e2 e3⟩, fun _ => ⟨fun _ => ⟨by decide, by decide, hq0 F' A' e1 e2 e3⟩, fun h => absurd rfl h⟩⟩
  have lp : ∀ (m : Nat) (F1 A1 : Fn2) (p1 u1 x4 : Int) (seg : List Int), 40 - x4 ≤ m → 0 ≤ x4 → u + 1 + x4 ≤ u1 → OkX 3 g n p s cs u p1 seg u1 → TkC g n p1 F1 → LSt o (cs ++ seg) u1 F1 A1 → FL o F A F1 A1 → G X (j + 8) m_X3_readBoth Q 10 [vA o, vA 2, vI t, vI 1, vI x4] [] F1 A1 R := by
    intro m
    induction m with
    | zero =>
      intro F1 A1 p1 u1 x4 seg hm h0 hux hok
      have := hok.1.2.1
      omega
    | succ m ih =>
      intro F1 A1 p1 u1 x4 seg hm h0 hux hok hk1 hL1 hf1
      obtain ⟨ok, r6, r5, r2, r1⟩ := hok
      have okk : OkP 4 g n p s cs u p1 seg u1 := OkP_up (by decide) ok
      have okk' := okk
      obtain ⟨a1, a2, a3, a4, a5, a6, a7, a8⟩ := okk'
      have fin : ¬ (tK g n p1 = 15) → Q (vI 1) F1 A1 R := fun hno => hq1 F1 A1 p1 seg u1 ⟨okk, fun z => r6 (by decide), fun z => r5 (by decide), fun z => rank_no.2.2.1 hno, fun z => absurd z (by decide)⟩ hk1 hL1 hf1
      have go : (tK g n p1 = 15) → Wp X (j + 8) m_X8_goNext [vA 2] F1 A1 R (fun v F A R => G X (j + 8) m_X3_readBoth Q 34 [vA o, vA 2, vI t, vI 1, vI x4] [] F A R) := by
        intro hop
        have hw6 : rank (tK g n p1) = 2 := rank_op.2.2.1 hop
        refine hk1.next (k := j + 2) (hT.fl ho hf1) (by omega) a5 (fun F2 k2 f2 _ q0 q1 => b_X3_readBoth_34 ha ?_)
        have eg := tE_gt (g := g) (p := p1) a5 (by omega)
        have hf2 := hf1.trans (f2.l (A := A1) ho)
        refine hU X (j + 8) _ F2 A1 R g n (tE g n p1) o u1 (cs ++ seg) ((2, -tK g n p1) :: s) (by omega) (hT.fl ho hf1) hn q0 q1 k2 ho (hL1.t2 ho f2) (by omega) a2 (by rw [List.length_append]; omega) ?_ ?_ (fun F3 A3 p3 seg3 u3 ok3 k3 L3 f3 => b_X3_readBoth_40 ha ?_) (fun F3 A3 e1 e2 f3 => b_X3_readBoth_40 ha ?_)
        · show (if (2 : Int) = 3 ∨ (2 : Int) = 7 then 1 else 0) + wth s = t
          rw [if_neg (by decide), hw]; omega
        · exact PreX_3
        · obtain ⟨b1, b2, b3, b4, b5, b6, b7, b8⟩ := ok3.1
          have ext := OkP_ext (kd2 := 3) (w := 2) (by decide) okk hw6 hs ok3
          have wr : Wp X (j + 8) m_X3_write [vA o, vI (-tK g n p1)] F3 A3 R (fun v F A R => G X (j + 8) m_X3_readBoth Q 47 [vA o, vA 2, vI t, vI 1, vI x4] [] F A R) := by
            refine c_write (k := j + 7) hR ho (by rw [L3.2.1]; omega) (fun F4 A4 g1 g2 g3 => b_X3_readBoth_47 ha ⟨by omega, ?_⟩)
            have L4 := g1 _ _ L3 (by rw [List.length_append, List.length_append]; omega)
            refine ih F4 A4 p3 u3 (x4 + 1) (seg ++ seg3 ++ [-tK g n p1]) (by omega) (by omega) (by omega) ⟨OkP_up (by decide) ext, ok3.2.1, ok3.2.2.1, ok3.2.2.2.1, ok3.2.2.2.2⟩ (k3.same g2) ?_ ((hf2.trans f3).trans g3)
            rw [← List.append_assoc, ← List.append_assoc]; exact L4
          rw [show tK g n p1 = 15 from hop] at wr; exact wr
        · have wr : Wp X (j + 8) m_X3_write [vA o, vI (-tK g n p1)] F3 A3 R (fun v F A R => G X (j + 8) m_X3_readBoth Q 47 [vA o, vA 2, vI t, vI 0, vI x4] [] F A R) := by
            have fx := hf2.trans f3
            refine c_write (k := j + 7) hR ho (fx.2.2 (by rw [hL.2.1]; omega)) (fun F4 A4 g1 g2 g3 => b_X3_readBoth_47 ha ⟨by omega, ?_⟩)
            have e28 : ∀ f, F4 2 f = F3 2 f := fun f => by rw [g2]
            refine bad F4 A4 _ ?_ (by rw [e28]; exact e2) (fx.trans g3)
            rw [e28, e28]
            exact OkP_bad okk hw6 (by decide) (by decide) hs e1
          rw [show tK g n p1 = 15 from hop] at wr; exact wr
      refine b_X3_readBoth_10 ha ⟨fun h => absurd (show x4 < 40 by omega) h, fun _ => ⟨fun h => absurd h (by decide), fun _ => ?_⟩⟩
      rw [hk1.2.2.2.1]
      exact ⟨fun n1 => ⟨by decide, by decide, fin n1⟩, fun h1 => go h1⟩
  refine Wp.of (k := j + 8) [vA o, vA 2, vI t, vN, vN] rfl rfl rfl (b_X3_readBoth_0 ha ?_)
  refine hU X (j + 8) _ F A R g n p o u cs s (by omega) hT hn hp hpn hk ho hL hu hu4 hc hw ?_ (fun F1 A1 p1 seg u1 ok1 k1 L1 f1 => b_X3_readBoth_6 ha (lp 40 F1 A1 p1 u1 0 seg (by decide) (by decide) (by have := ok1.1.1; omega) ok1 k1 L1 f1)) (fun F1 A1 e1 e2 f1 => b_X3_readBoth_6 ha (bad F1 A1 _ e1 e2 f1))
  obtain ⟨e0, e1, e2, e3, e4, e5⟩ := hpre
  refine ⟨fun z => ?_, fun z => ?_, fun z => ?_, fun z => ?_, fun z => ?_, fun z => ?_⟩ <;> (try first | exact e0 (by decide) | exact absurd z (by decide)) <;> (try omega)

theorem c_either {t : Int} {d : Nat} (hd : 8 ≤ d) (hU : RdX 4 m_X3_readBoth d t) : RdX 5 m_X3_readEither (d + 1) t := by
  intro X K Q F A R g n p o u cs s hK hT hn hp hpn hk ho hL hu hu4 hc hw hpre hq1 hq0
  obtain ⟨j, rfl⟩ : ∃ j, K = j + 9 := ⟨K - 9, by omega⟩
  have ha := lawD_at ho
  have hR := hT.1
  have hoo := ho
  unfold lawD at hoo
  have hs : 6 < topW s ∨ topW s < 1 := by
    obtain ⟨_, e1, e2, e3, e4, e5⟩ := hpre
    omega
  have bad : ∀ (F' A' : Fn2) (x4 : Int), Rn g n true p s cs u (flL (F' 2 7) (F' 2 8)) → 0 < F' 2 7 → FL o F A F' A' → G X (j + 8) m_X3_readEither Q 10 [vA o, vA 2, vI t, vI 0, vI x4] [] F' A' R := fun F' A' x4  e1 e2 e3 => b_X3_readEither_10 ha ⟨fun _ => ⟨by decide, by decide, hq0 F' A' e1 e2 e3⟩, fun _ => ⟨fun _ => ⟨by decide, by decide, hq0 F' A' e1 e2 e3⟩, fun h => absurd rfl h⟩⟩
  have lp : ∀ (m : Nat) (F1 A1 : Fn2) (p1 u1 x4 : Int) (seg : List Int), 40 - x4 ≤ m → 0 ≤ x4 → u + 1 + x4 ≤ u1 → OkX 4 g n p s cs u p1 seg u1 → TkC g n p1 F1 → LSt o (cs ++ seg) u1 F1 A1 → FL o F A F1 A1 → G X (j + 8) m_X3_readEither Q 10 [vA o, vA 2, vI t, vI 1, vI x4] [] F1 A1 R := by
    intro m
    induction m with
    | zero =>
      intro F1 A1 p1 u1 x4 seg hm h0 hux hok
      have := hok.1.2.1
      omega
    | succ m ih =>
      intro F1 A1 p1 u1 x4 seg hm h0 hux hok hk1 hL1 hf1
      obtain ⟨ok, r6, r5, r2, r1⟩ := hok
      have okk : OkP 5 g n p s cs u p1 seg u1 := OkP_up (by decide) ok
      have okk' := okk
      obtain ⟨a1, a2, a3, a4, a5, a6, a7, a8⟩ := okk'
      have fin : ¬ (tK g n p1 = 14) → Q (vI 1) F1 A1 R := fun hno => hq1 F1 A1 p1 seg u1 ⟨okk, fun z => r6 (by decide), fun z => r5 (by decide), fun z => r2 (by decide), fun z => rank_no.2.2.2.1 hno⟩ hk1 hL1 hf1
      have go : (tK g n p1 = 14) → Wp X (j + 8) m_X8_goNext [vA 2] F1 A1 R (fun v F A R => G X (j + 8) m_X3_readEither Q 34 [vA o, vA 2, vI t, vI 1, vI x4] [] F A R) := by
        intro hop
        have hw6 : rank (tK g n p1) = 1 := rank_op.2.2.2.1 hop
        refine hk1.next (k := j + 2) (hT.fl ho hf1) (by omega) a5 (fun F2 k2 f2 _ q0 q1 => b_X3_readEither_34 ha ?_)
        have eg := tE_gt (g := g) (p := p1) a5 (by omega)
        have hf2 := hf1.trans (f2.l (A := A1) ho)
        refine hU X (j + 8) _ F2 A1 R g n (tE g n p1) o u1 (cs ++ seg) ((1, -tK g n p1) :: s) (by omega) (hT.fl ho hf1) hn q0 q1 k2 ho (hL1.t2 ho f2) (by omega) a2 (by rw [List.length_append]; omega) ?_ ?_ (fun F3 A3 p3 seg3 u3 ok3 k3 L3 f3 => b_X3_readEither_40 ha ?_) (fun F3 A3 e1 e2 f3 => b_X3_readEither_40 ha ?_)
        · show (if (1 : Int) = 3 ∨ (1 : Int) = 7 then 1 else 0) + wth s = t
          rw [if_neg (by decide), hw]; omega
        · exact PreX_4
        · obtain ⟨b1, b2, b3, b4, b5, b6, b7, b8⟩ := ok3.1
          have ext := OkP_ext (kd2 := 4) (w := 1) (by decide) okk hw6 hs ok3
          have wr : Wp X (j + 8) m_X3_write [vA o, vI (-tK g n p1)] F3 A3 R (fun v F A R => G X (j + 8) m_X3_readEither Q 47 [vA o, vA 2, vI t, vI 1, vI x4] [] F A R) := by
            refine c_write (k := j + 7) hR ho (by rw [L3.2.1]; omega) (fun F4 A4 g1 g2 g3 => b_X3_readEither_47 ha ⟨by omega, ?_⟩)
            have L4 := g1 _ _ L3 (by rw [List.length_append, List.length_append]; omega)
            refine ih F4 A4 p3 u3 (x4 + 1) (seg ++ seg3 ++ [-tK g n p1]) (by omega) (by omega) (by omega) ⟨OkP_up (by decide) ext, ok3.2.1, ok3.2.2.1, ok3.2.2.2.1, ok3.2.2.2.2⟩ (k3.same g2) ?_ ((hf2.trans f3).trans g3)
            rw [← List.append_assoc, ← List.append_assoc]; exact L4
          rw [show tK g n p1 = 14 from hop] at wr; exact wr
        · have wr : Wp X (j + 8) m_X3_write [vA o, vI (-tK g n p1)] F3 A3 R (fun v F A R => G X (j + 8) m_X3_readEither Q 47 [vA o, vA 2, vI t, vI 0, vI x4] [] F A R) := by
            have fx := hf2.trans f3
            refine c_write (k := j + 7) hR ho (fx.2.2 (by rw [hL.2.1]; omega)) (fun F4 A4 g1 g2 g3 => b_X3_readEither_47 ha ⟨by omega, ?_⟩)
            have e28 : ∀ f, F4 2 f = F3 2 f := fun f => by rw [g2]
            refine bad F4 A4 _ ?_ (by rw [e28]; exact e2) (fx.trans g3)
            rw [e28, e28]
            exact OkP_bad okk hw6 (by decide) (by decide) hs e1
          rw [show tK g n p1 = 14 from hop] at wr; exact wr
      refine b_X3_readEither_10 ha ⟨fun h => absurd (show x4 < 40 by omega) h, fun _ => ⟨fun h => absurd h (by decide), fun _ => ?_⟩⟩
      rw [hk1.2.2.2.1]
      exact ⟨fun n1 => ⟨by decide, by decide, fin n1⟩, fun h1 => go h1⟩
  refine Wp.of (k := j + 8) [vA o, vA 2, vI t, vN, vN] rfl rfl rfl (b_X3_readEither_0 ha ?_)
  refine hU X (j + 8) _ F A R g n p o u cs s (by omega) hT hn hp hpn hk ho hL hu hu4 hc hw ?_ (fun F1 A1 p1 seg u1 ok1 k1 L1 f1 => b_X3_readEither_6 ha (lp 40 F1 A1 p1 u1 0 seg (by decide) (by decide) (by have := ok1.1.1; omega) ok1 k1 L1 f1)) (fun F1 A1 e1 e2 f1 => b_X3_readEither_6 ha (bad F1 A1 _ e1 e2 f1))
  obtain ⟨e0, e1, e2, e3, e4, e5⟩ := hpre
  refine ⟨fun z => ?_, fun z => ?_, fun z => ?_, fun z => ?_, fun z => ?_, fun z => ?_⟩ <;> (try first | exact e0 (by decide) | exact absurd z (by decide)) <;> (try omega)
