/-! THE CLASS READS A LAW: a unit -/
def RdX (kd mth d : Nat) (t : Int) : Prop := ∀ (X : Int × (Int → Int)) (K : Nat) (Q : Vv → Fn2 → Fn2 → Fn2 → Prop) (F A R : Fn2) (g : Int → Int) (n p o u : Int) (cs : List Int) (s : Pl), d ≤ K → TxC g n A R → n ≤ 300 → 0 ≤ p → p ≤ n → TkC g n p F → lawD o → LSt o cs u F A → 0 ≤ u → u ≤ 40 → (cs.length : Int) ≤ p → wth s = t → PreX kd (tK g n p) s →
  (∀ F' A' p' seg u', OkX kd g n p s cs u p' seg u' → TkC g n p' F' → LSt o (cs ++ seg) u' F' A' → FL o F A F' A' → Q (vI 1) F' A' R) →
  (∀ F' A', Rn g n true p s cs u (flL (F' 2 7) (F' 2 8)) → 0 < F' 2 7 → FL o F A F' A' → Q (vI 0) F' A' R) → Wp X K mth [vA o, vA 2, vI t] F A R Q
theorem tV_0 {g : Int → Int} {n p : Int} (h : tK g n p = 22) : 0 ≤ tV g n p := by
  unfold tV
  refine (nmB_b (b := 10) (z := 48) (by decide) _ ?_).1
  unfold tK at h
  by_cases h1 : tA g n p < n
  · rw [if_pos h1] at h
    by_cases h2 : bL (g (tA g n p)) = true
    · rw [if_pos h2] at h
      have lb := look_b WT 0 (tW g n p)
      have l : WT.length = 20 := rfl
      split at h <;> omega
    · rw [if_neg h2] at h
      by_cases h3 : bD (g (tA g n p)) = true
      · have eE : tE g n p = adw g n bD (tA g n p) := by unfold tE; rw [if_pos h1, if_neg h2, if_pos h3]
        exact fwd_all (g := g) (P := fun c => 48 ≤ c ∧ c < 48 + 10) _ (fun i a b => by have := bD_t.1 (adw_in (g := g) (n := n) (P := bD) a (by omega)); omega)
      · rw [if_neg h3] at h; split at h <;> omega
  · rw [if_neg h1] at h; omega
theorem c_unit {t : Int} {d : Nat} (ht0 : 0 ≤ t) (ht7 : t ≤ 7) (hd : 8 ≤ d) (hE : t ≤ 6 → RdX 5 m_X3_readEither d (t + 1)) : RdX 0 m_X3_readUnit (d + 1) t := by
  intro X K Q F A R g n p o u cs s hK hT hn hp hpn hk ho hL hu hu4 hc hw hpre hq1 hq0
  obtain ⟨j, rfl⟩ : ∃ j, K = j + 9 := ⟨K - 9, by omega⟩
  have ha := lawD_at ho
  have hR := hT.1
  have k0 := tK_0 (g := g) (n := n) (p := p)
  have n16 := hpre.1 (by decide)
  have hoo := ho
  unfold lawD at hoo
  have rf : noU (tK g n p) s u → ∀ x4 x5, Wp X (j + 8) m_X8_refuse [vA 2, vI 2] F A R (fun v F A R => G X (j + 8) m_X3_readUnit Q 84 [vA o, vA 2, vI t, vI (tK g n p), vI x4, vI x5] [v] F A R) := fun h x4 x5 => c_refuse (fl := flL) (rs := rfs flL g n p 2) (k := j + 7) hk (by decide) rfl (fun F' e1 e2 e3 => b_X3_readUnit_84 ha ⟨by decide, by decide, hq0 F' A (by rw [← e1]; exact Rn_no h) e2 (e3.l ho)⟩)
  have g85 : ∀ x4 x5, ¬ noU (tK g n p) s u → u < 40 → (x4 = 1 ∧ isU (tK g n p) ∨ x4 = 0 ∧ ¬ isU (tK g n p)) → (x5 = 1 ∧ tK g n p = 40 ∧ t ≤ 6 ∨ x5 = 0 ∧ tK g n p ≠ 40) → G X (j + 8) m_X3_readUnit Q 85 [vA o, vA 2, vI t, vI (tK g n p), vI x4, vI x5] [] F A R := by
    intro x4 x5 hno hlt h4 h5
    have eg : p < tE g n p ∧ tE g n p ≤ n := tE_gt hpn (fun z => hno (Or.inl ⟨fun y => by omega, Or.inl ⟨by omega, by omega, by omega⟩⟩))
    refine b_X3_readUnit_85 ha ⟨by rw [hL.1]; omega, fun F1 hF1 => ?_⟩
    rw [hL.1] at hF1
    have x1 : ∀ a f, a ≠ o ∨ f ≠ 1 → F1 a f = F a f := fun a f h => by
      rw [hF1]
      by_cases e : a = o
      · subst e; rw [st2_s, u1_n (by omega)]
      · rw [st2_n e]
    have e2 : F1 2 = F 2 := funext fun f => x1 2 f (by omega)
    have k1 := hk.same e2
    have L1 : LSt o cs (u + 1) F1 A := ⟨by rw [hF1, st2_s, u1_s], by rw [x1 o 3 (by omega)]; exact hL.2.1, hL.2.2⟩
    have f1 : FL o F A F1 A := ⟨fun a f x y => x1 a f (by omega), fun _ _ => rfl, fun x => by rw [x1 o 3 (by omega)]; exact x⟩
    have wr : ∀ c, x5 = 0 → c = (if isU (tK g n p) then -tK g n p else tV g n p) → tK g n p ≠ 40 → Wp X (j + 8) m_X3_write [vA o, vI c] F1 A R (fun v F A R => G X (j + 8) m_X3_readUnit Q 118 [vA o, vA 2, vI t, vI (tK g n p), vI x4, vI x5] [] F A R) := by
      intro c hx5 hcc h40
      refine c_write (k := j + 7) hR ho (by rw [L1.2.1]; omega) (fun F2 A2 g1 g2 g3 => b_X3_readUnit_118 ha ?_)
      have L2 := g1 cs (u + 1) L1 (by omega)
      refine (k1.same g2).next (k := j + 2) (hT.fl ho g3) hp hpn (fun F3 k3 f3 _ p0 p1 => b_X3_readUnit_122 ha ⟨fun _ => ?_, fun h => absurd hx5 h⟩)
      have hex : Exs [c] 1 := by
        refine Exs.u ?_
        rw [hcc]
        by_cases z : isU (tK g n p)
        · rw [if_pos z]; omega
        · rw [if_neg z]
          refine Or.inl (tV_0 ?_)
          by_cases z2 : tK g n p = 22
          · exact z2
          · exact absurd (Or.inl ⟨fun y => n16 y.1 y.2, Or.inl ⟨z, z2, h40⟩⟩) hno
      refine hq1 F3 A2 (tE g n p) [c] (u + 1) ⟨⟨by omega, by omega, hex.mono (by omega), eg.1, eg.2, by show ((1 : Nat) : Int) ≤ _; omega, fun _ r hr => ?_, fun z => absurd z (by decide)⟩, fun z => absurd z (by decide), fun z => absurd z (by decide), fun z => absurd z (by decide), fun z => absurd z (by decide)⟩ k3 (L2.t2 ho f3) ((f1.trans g3).trans (f3.l ho))
      rw [hcc] at hr
      exact Rn_u hno (fun y => n16 y.1 y.2) h40 hr
    refine ⟨fun h5n => ?_, fun h50 => ⟨fun h40 => wr _ h50 ?_ (by omega), fun h41 => ⟨by omega, wr _ h50 ?_ (by omega)⟩⟩⟩
    · have h40 : tK g n p = 40 := by omega
      have t6 : t ≤ 6 := by omega
      refine b_X3_readUnit_118 ha (k1.next (k := j + 2) hT hp hpn (fun F3 k3 f3 _ p0 p1 => b_X3_readUnit_122 ha ⟨fun h => absurd h h5n, fun _ => ⟨by omega, ?_⟩⟩))
      have f13 := f1.trans (f3.l (A := A) ho)
      refine hE t6 X (j + 8) _ F3 A R g n (tE g n p) o (u + 1) cs ((7, 0) :: s) (by omega) hT hn p0 p1 k3 ho (L1.t2 ho f3) (by omega) (by omega) (by omega) ?_ ⟨fun z => absurd z (by decide), fun z => absurd z (by decide), fun z => absurd z (by decide), fun z => absurd z (by decide), fun z => absurd z (by decide), fun _ => by show (7 : Int) ≤ 7; decide⟩ (fun F4 A4 p4 seg u4 ok4 k4 L4 f4 => b_X3_readUnit_135 ha ⟨fun h => absurd h (by decide), fun _ => ?_⟩) (fun F4 A4 e1 e2 f4 => b_X3_readUnit_135 ha ⟨fun _ => hq0 F4 A4 (Rn_br hno h40 e1) e2 (f13.trans f4), fun h => absurd rfl h⟩)
      · show (if (7 : Int) = 3 ∨ (7 : Int) = 7 then 1 else 0) + wth s = t + 1
        rw [if_pos (Or.inr rfl), hw]; omega
      · obtain ⟨⟨b1, b2, b3, b4, b5, b6, b7, b8⟩, c1, c2, c3, c4⟩ := ok4
        have rb := rank_b (tK g n p4)
        have r1 := c1 (by decide)
        have r2 := c2 (by decide)
        have r3 := c3 (by decide)
        have r4 := c4 (by decide)
        refine c_takeL (k := j + 1) (hT.fl ho f4) (by omega) b5 k4 (fun F5 h41 q0 q1 k5 f5 => b_X3_readUnit_144 ha ⟨fun h => absurd h (by decide), fun _ => ?_⟩) (fun F5 h41 e1 e2 f5 => b_X3_readUnit_144 ha ⟨fun _ => ?_, fun h => absurd rfl h⟩)
        · have r0 : rank (tK g n p4) = 0 := by rw [h41]; decide
          have eg4 := tE_gt b5 (show tK g n p4 ≠ 20 by omega)
          refine hq1 F5 A4 (tE g n p4) seg u4 ⟨⟨by omega, b2, b3.mono (by omega), by omega, eg4.2, by omega, fun _ r hr => Rn_br hno h40 (b7 (by omega) r (Rn_cl r0 h41 hr)), fun z => absurd z (by decide)⟩, fun z => absurd z (by decide), fun z => absurd z (by decide), fun z => absurd z (by decide), fun z => absurd z (by decide)⟩ k5 (L4.t2 ho f5) ((f13.trans f4).trans (f5.l ho))
        · refine hq0 F5 A4 (Rn_br hno h40 ?_) e2 ((f13.trans f4).trans (f5.l ho))
          by_cases h4 : rank (tK g n p4) = 4
          · have := b8 (by decide) h4
            rw [← e1]
            unfold rfs
            rw [if_neg (fun z => by rw [z] at h4; exact absurd h4 (by decide))]
            exact this
          · rw [← e1]
            exact b7 (Or.inr h4) _ (Rn_ncl (by omega) h41)
    · rw [if_neg (by omega), e2]
      refine hk.2.2.2.2.1 ?_
      by_cases z2 : tK g n p = 22
      · exact z2
      · exact absurd (Or.inl ⟨fun y => n16 y.1 y.2, Or.inl ⟨by omega, z2, by omega⟩⟩) hno
    · rw [if_pos (by omega)]
  have dec : ∀ x4 x5, (x4 = 1 ∧ isU (tK g n p) ∨ x4 = 0 ∧ ¬ isU (tK g n p)) → (x5 = 1 ∧ tK g n p = 40 ∧ t ≤ 6 ∨ x5 = 0 ∧ tK g n p ≠ 40) → u < 40 → (isU (tK g n p) ∨ tK g n p = 22 ∨ tK g n p = 40) → G X (j + 8) m_X3_readUnit Q 85 [vA o, vA 2, vI t, vI (tK g n p), vI x4, vI x5] [] F A R := fun x4 x5 h4 h5 hlt hh => g85 x4 x5 (fun z => by
    rcases z with ⟨_, z⟩ | ⟨z, z'⟩
    · omega
    · have := n16
      rcases z with z | z
      · exact n16 z.1 z.2
      · omega) hlt h4 h5
  have full : ¬ u < 40 → noU (tK g n p) s u := fun h => Or.inl ⟨fun y => n16 y.1 y.2, Or.inr (by omega)⟩
  have g28 : isU (tK g n p) → G X (j + 8) m_X3_readUnit Q 28 [vA o, vA 2, vI t, vI (tK g n p), vN, vN] [] F A R := fun hU => by
    refine b_X3_readUnit_28 ha ?_
    rw [hL.1]
    exact ⟨fun _ => ⟨fun h => rf (full h) 1 0, fun h => dec 1 0 (Or.inl ⟨rfl, hU⟩) (Or.inr ⟨rfl, by omega⟩) h (Or.inl hU)⟩, fun h => by omega⟩
  refine Wp.of (k := j + 8) [vA o, vA 2, vI t, vN, vN, vN] rfl rfl rfl (b_X3_readUnit_0 ha fun g1 hg1 => ?_)
  rw [hk.2.2.2.1] at hg1
  subst hg1
  rw [hL.1]
  refine ⟨fun h => g28 (by omega), fun n3 => ⟨fun h => g28 (by omega), fun n17 => ⟨fun h => g28 (by omega), fun n18 => ⟨fun n19 => ⟨fun n40 => ⟨fun h => rf (full h) 0 0, fun h => ⟨fun e22 => dec 0 0 (Or.inr ⟨rfl, by omega⟩) (Or.inr ⟨rfl, n40⟩) h (Or.inr (Or.inl e22)), fun n22 => rf (Or.inl ⟨fun y => n16 y.1 y.2, Or.inl ⟨by omega, n22, n40⟩⟩) 0 0⟩⟩, fun e40 => ⟨fun t6 => ⟨fun h => rf (full h) 0 0, fun h => ⟨fun e22 => by omega, fun n22 => rf (Or.inr ⟨Or.inr e40, by omega⟩) 0 0⟩⟩, fun t6 => ⟨fun h => rf (full h) 0 1, fun h => dec 0 1 (Or.inr ⟨rfl, by omega⟩) (Or.inl ⟨rfl, e40, by omega⟩) h (Or.inr (Or.inr e40))⟩⟩⟩, fun e19 => g28 (by omega)⟩⟩⟩⟩
