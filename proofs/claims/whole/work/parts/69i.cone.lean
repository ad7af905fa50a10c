/-! THE CLASS READS A LAW: one, and all of it -/
theorem cmpd_b {s : Pl} (h : bgn s) : cmpd s = false := by
  cases s with
  | nil => rfl
  | cons x s =>
    have h' : x.1 ≤ 3 ∨ 7 ≤ x.1 := h
    show (if x.1 = 5 ∨ x.1 = 6 then cmpd s else decide (x.1 = 4)) = false
    rw [if_neg (by omega)]
    exact decide_eq_false (by omega)
theorem c_one {t : Int} {d : Nat} (ht0 : 0 ≤ t) (ht7 : t ≤ 7) (hd : 8 ≤ d) (hS : RdX 2 m_X3_readSum d t) (hO : t ≤ 6 → RdX 3 m_X3_readOne d (t + 1)) : RdX 3 m_X3_readOne (d + 1) t := by
  intro X K Q F A R g n p o u cs s hK hT hn hp hpn hk ho hL hu hu4 hc hw hpre hq1 hq0
  obtain ⟨j, rfl⟩ : ∃ j, K = j + 9 := ⟨K - 9, by omega⟩
  have ha := lawD_at ho
  have hR := hT.1
  have hoo := ho
  unfold lawD at hoo
  have hb : bgn s := hpre.2.2.2.1 rfl
  have hbb := hb
  unfold bgn at hbb
  refine Wp.of (k := j + 8) [vA o, vA 2, vI t, vN, vN] rfl rfl rfl (b_X3_readOne_0 ha ?_)
  rw [hk.2.2.2.1]
  refine ⟨fun n16 => ?_, fun e16 => ⟨fun h6 => ?_, fun h6 => ?_⟩⟩
  · refine hS X (j + 8) _ F A R g n p o u cs s (by omega) hT hn hp hpn hk ho hL hu hu4 hc hw ⟨fun _ _ => n16, fun z => absurd z (by decide), fun _ => by omega, fun z => absurd z (by decide), fun z => absurd z (by decide), fun z => absurd z (by decide)⟩ (fun F1 A1 p1 seg u1 ok1 k1 L1 f1 => b_X3_readOne_48 ha ⟨fun _ g1 hg1 => ?_, fun h => absurd h (by decide)⟩) (fun F1 A1 e1 e2 f1 => b_X3_readOne_48 ha ⟨fun h => absurd rfl h, fun _ => hq0 F1 A1 e1 e2 f1⟩)
    rw [k1.2.2.2.1] at hg1
    subst hg1
    have ok1' := ok1
    obtain ⟨⟨a1, a2, a3, a4, a5, a6, a7, a8⟩, r6, r5, r2, r1⟩ := ok1'
    have go : (tK g n p1 = 60 ∨ tK g n p1 = 62 ∨ tK g n p1 = 61) → Wp X (j + 8) m_X8_goNext [vA 2] F1 A1 R (fun v F A R => G X (j + 8) m_X3_readOne Q 82 [vA o, vA 2, vI t, vI (tK g n p1), vN] [] F A R) := by
      intro hop
      have hw4 : rank (tK g n p1) = 4 := rank_op.2.2.2.2 hop
      refine k1.next (k := j + 2) (hT.fl ho f1) (by omega) a5 (fun F2 k2 f2 _ q0 q1 => b_X3_readOne_82 ha ?_)
      have eg := tE_gt (g := g) (p := p1) a5 (by omega)
      have hf2 := f1.trans (f2.l (A := A1) ho)
      refine hS X (j + 8) _ F2 A1 R g n (tE g n p1) o u1 (cs ++ seg) ((4, -tK g n p1) :: s) (by omega) (hT.fl ho f1) hn q0 q1 k2 ho (L1.t2 ho f2) (by omega) a2 (by rw [List.length_append]; omega) ?_ ?_ (fun F3 A3 p3 seg3 u3 ok3 k3 L3 f3 => b_X3_readOne_88 ha ⟨by omega, ?_⟩) (fun F3 A3 e1 e2 f3 => b_X3_readOne_88 ha ⟨by omega, ?_⟩)
      · show (if (4 : Int) = 3 ∨ (4 : Int) = 7 then 1 else 0) + wth s = t
        rw [if_neg (by decide), hw]; omega
      · exact PreX_2
      · obtain ⟨b1, b2, b3, b4, b5, b6, b7, b8⟩ := ok3.1
        have ext := OkP_cmp ok1.1 hw4 hb (cmpd_b hb) ok3
        refine c_write (k := j + 7) hR ho (by rw [L3.2.1]; omega) (fun F4 A4 g1 g2 g3 => b_X3_readOne_96 ha ⟨by decide, by decide, ?_⟩)
        have L4 := g1 _ _ L3 (by rw [List.length_append, List.length_append]; omega)
        refine hq1 F4 A4 p3 (seg ++ seg3 ++ [-tK g n p1]) u3 ext (k3.same g2) ?_ ((hf2.trans f3).trans g3)
        rw [← List.append_assoc, ← List.append_assoc]; exact L4
      · have fx := hf2.trans f3
        refine c_write (k := j + 7) hR ho (fx.2.2 (by rw [hL.2.1]; omega)) (fun F4 A4 g1 g2 g3 => b_X3_readOne_96 ha ⟨by decide, by decide, ?_⟩)
        have e28 : ∀ f, F4 2 f = F3 2 f := fun f => by rw [g2]
        refine hq0 F4 A4 ?_ (by rw [e28]; exact e2) (fx.trans g3)
        rw [e28, e28]
        exact a7 (Or.inl (by decide)) _ (Rn_push (by omega) (by omega) (fun _ => cmpd_b hb) (by rw [hw4]; exact e1))
    refine ⟨fun h => go (Or.inl h), fun n1 => ⟨fun h => go (Or.inr (Or.inl h)), fun n2 => ⟨fun h => go (Or.inr (Or.inr h)), fun n3 => ?_⟩⟩⟩
    have n4 := rank_no.2.2.2.2 (show ¬ (tK g n p1 = 60 ∨ tK g n p1 = 62 ∨ tK g n p1 = 61) by omega)
    exact hq1 F1 A1 p1 seg u1 ⟨⟨a1, a2, a3, a4, a5, a6, fun _ => a7 (Or.inl (by decide)), fun _ z => absurd z n4⟩, fun _ => r6 (by decide), fun _ => r5 (by decide), fun z => absurd z (by decide), fun z => absurd z (by decide)⟩ k1 L1 f1
  · have hno : ¬ noU (tK g n p) s u := fun z => by
      rcases z with z | z
      · exact z.1 ⟨hb, e16⟩
      · omega
    have eg := tE_gt (g := g) hpn (show tK g n p ≠ 20 by omega)
    refine hk.next (k := j + 2) hT hp hpn (fun F2 k2 f2 _ q0 q1 => b_X3_readOne_25 ha ⟨by omega, ?_⟩)
    refine hO (by omega) X (j + 8) _ F2 A R g n (tE g n p) o u cs ((3, -16) :: s) (by omega) hT hn q0 q1 k2 ho (hL.t2 ho f2) hu hu4 (by omega) ?_ ⟨fun z => absurd z (by decide), fun z => absurd z (by decide), fun z => absurd z (by decide), fun _ => Or.inl (by show (3 : Int) ≤ 3; decide), fun z => absurd z (by decide), fun z => absurd z (by decide)⟩ (fun F3 A3 p3 seg3 u3 ok3 k3 L3 f3 => b_X3_readOne_33 ha ?_) (fun F3 A3 e1 e2 f3 => b_X3_readOne_33 ha ?_)
    · show (if (3 : Int) = 3 ∨ (3 : Int) = 7 then 1 else 0) + wth s = t + 1
      rw [if_pos (Or.inl rfl), hw]; omega
    · obtain ⟨⟨b1, b2, b3, b4, b5, b6, b7, b8⟩, r6, r5, r2, r1⟩ := ok3
      have rb := rank_b (tK g n p3)
      have r6' := r6 (by decide)
      have r5' := r5 (by decide)
      refine c_write (k := j + 7) hR ho (by rw [L3.2.1]; omega) (fun F4 A4 g1 g2 g3 => b_X3_readOne_40 ha ⟨by decide, by decide, ?_⟩)
      have L4 := g1 _ _ L3 (by rw [List.length_append]; omega)
      refine hq1 F4 A4 p3 (seg3 ++ [-16]) u3 ⟨⟨b1, b2, b3.not, by omega, b5, ?_, fun z r hr => ?_, fun _ h4 => ?_⟩, r6, r5, fun z => absurd z (by decide), fun z => absurd z (by decide)⟩ (k3.same g2) ?_ (((f2.l (A := A) ho).trans f3).trans g3)
      · rw [List.length_append]
        show ((seg3.length + 1 : Nat) : Int) ≤ _
        omega
      · have h4 : rank (tK g n p3) ≠ 4 := by omega
        refine Rn_not hno ⟨hb, e16⟩ (b7 (Or.inr h4) r (Rn_pop (by decide) (by omega) (Or.inl h4) ?_))
        rw [List.append_assoc]; exact hr
      · exact Rn_not hno ⟨hb, e16⟩ (b8 (by decide) h4)
      · rw [← List.append_assoc]; exact L4
    · have fx := (f2.l (A := A) ho).trans f3
      refine c_write (k := j + 7) hR ho (fx.2.2 (by rw [hL.2.1]; omega)) (fun F4 A4 g1 g2 g3 => b_X3_readOne_40 ha ⟨by decide, by decide, ?_⟩)
      have e28 : ∀ f, F4 2 f = F3 2 f := fun f => by rw [g2]
      refine hq0 F4 A4 ?_ (by rw [e28]; exact e2) (fx.trans g3)
      rw [e28, e28]
      exact Rn_not hno ⟨hb, e16⟩ e1
  · have hno : noU (tK g n p) s u := Or.inr ⟨Or.inl ⟨hb, e16⟩, by omega⟩
    exact c_refuse (fl := flL) (rs := rfs flL g n p 2) (k := j + 7) hk (by decide) rfl (fun F' e1 e2 e3 => b_X3_readOne_20 ha ⟨by decide, by decide, hq0 F' A (by rw [← e1]; exact Rn_no hno) e2 (e3.l ho)⟩)
theorem c_all : ∀ m : Nat, m ≤ 7 → RdX 3 m_X3_readOne (12 + 6 * m) (7 - (m : Int)) ∧ RdX 5 m_X3_readEither (14 + 6 * m) (7 - (m : Int)) := by
  intro m
  induction m with
  | zero =>
    intro _
    have hu : RdX 0 m_X3_readUnit 9 7 := c_unit (by decide) (by decide) (d := 8) (by decide) (fun h => absurd h (by decide))
    have hs := c_sum (by decide) (c_term (by decide) hu)
    have ho : RdX 3 m_X3_readOne 12 7 := c_one (by decide) (by decide) (by decide) hs (fun h => absurd h (by decide))
    exact ⟨ho, c_either (by decide) (c_both (by decide) ho)⟩
  | succ m ih =>
    intro hm
    obtain ⟨i1, i2⟩ := ih (by omega)
    have e : 7 - (m : Int) = 7 - ((m + 1 : Nat) : Int) + 1 := by omega
    rw [e] at i1 i2
    have hu : RdX 0 m_X3_readUnit (14 + 6 * m + 1) (7 - ((m + 1 : Nat) : Int)) := c_unit (by omega) (by omega) (by omega) (fun _ => i2)
    have hs := c_sum (by omega) (c_term (by omega) hu)
    have ho := c_one (by omega) (by omega) (by omega) hs (fun _ => i1.mono (by omega))
    exact ⟨ho.mono (by omega), (c_either (by omega) (c_both (by omega) ho)).mono (by omega)⟩
theorem c_eith : RdX 5 m_X3_readEither 56 0 := (c_all 7 (by decide)).2
