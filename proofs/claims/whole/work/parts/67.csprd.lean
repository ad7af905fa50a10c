/-! THE CLASS READS A SPRING -/
theorem SpI.ft {q : Int} {S : Sp} {F A F' : Fn2} (hq : inQ q) (h : SpI q S F A) (x : FT2 F F') : SpI q S F' A := by
  obtain ⟨h1, h2, h3, h4⟩ := h
  unfold inQ at hq
  exact ⟨by rw [x q 0 (by omega)]; exact h1, by rw [x q 1 (by omega)]; exact h2, h3, h4⟩
theorem SpI.put {q : Int} {S : Sp} {F A : Fn2} {i v : Int} (h : SpI q S F A) (hi : 1 ≤ i ∧ i ≤ 8) : SpI q S F (st2 A (q + i) (S.1 0 0) v) := by
  obtain ⟨h1, h2, h3, h4⟩ := h
  have z : ∀ j r, r ≠ S.1 0 0 → st2 A (q + i) (S.1 0 0) v (q + j) r = A (q + j) r := fun j r hr => by
    by_cases e : j = i
    · subst e; rw [st2_s, u1_n hr]
    · rw [st2_n (by omega)]
  refine ⟨h1, h2, fun r a b => ⟨fun j x y w => ?_, ?_⟩, fun j a b i' x y => ?_⟩
  · rw [z j r (by omega)]; exact (h3 r a b).1 j x y w
  · rw [z 2 r (by omega)]; exact (h3 r a b).2
  · rw [st2_n (by omega)]; exact h4 j a b i' x y
theorem SpI.putJ {q : Int} {S : Sp} {F A : Fn2} {i v : Int} (h : SpI q S F A) (hi : 9 ≤ i ∧ i ≤ 11) : SpI q S F (st2 A (q + i) (S.1 0 1) v) := by
  obtain ⟨h1, h2, h3, h4⟩ := h
  refine ⟨h1, h2, fun r a b => ⟨fun j x y w => ?_, ?_⟩, fun j a b i' x y => ?_⟩
  · rw [st2_n (by omega)]; exact (h3 r a b).1 j x y w
  · rw [st2_n (by omega)]; exact (h3 r a b).2
  · by_cases e : i' = i
    · subst e; rw [st2_s, u1_n (by omega)]; exact h4 j a b i' x y
    · rw [st2_n (by omega)]; exact h4 j a b i' x y
theorem FQ.put {q : Int} {F A : Fn2} {i j v : Int} (hi : 1 ≤ i ∧ i ≤ 11) : FQ q F A F (st2 A (q + i) j v) := ⟨fun _ _ _ _ => rfl, fun a h => by rw [st2_n (by omega)]⟩
theorem TxC.put {q i j v : Int} {g : Int → Int} {n : Int} {A R : Fn2} (hq : inQ q) (hi : 1 ≤ i ∧ i ≤ 11) (h : TxC g n A R) : TxC g n (st2 A (q + i) j v) R := h.fq (q := q) (F := A) (F' := A) (by unfold inQ at hq; omega) (FQ.put hi)
theorem c_findL {X : Int × (Int → Int)} {k : Nat} {Q : Vv → Fn2 → Fn2 → Fn2 → Prop} {F A R : Fn2} {q : Int} {S : Sp} {w : List Int} (hR : RS R) (hq : inQ q) (hI : SpI q S F A) (hW : WfS S) (hw : lettr w) : ∀ (m : Nat) (r : Int), 0 ≤ r → r + m = S.1 0 0 → Q (vI (fndL S.2 w m r)) F A R → G X k m_X7_findRoom Q 2 [vA q, vL (nmB 27 96 w), vN, vI r] [] F A R
  | 0, r, h0, hm, hq' => b_X7_findRoom_2 hR (inQ_at hq) ⟨fun _ => hq', fun h => absurd h (by rw [hI.1]; omega)⟩
  | m + 1, r, h0, hm, hq' => by
    have hb := hW.1.1
    have hn := (hI.2.2.1 r h0 (by omega)).2
    have hq2 : Q (vI (if S.2 r = w then r else fndL S.2 w m (r + 1))) F A R := hq'
    refine b_X7_findRoom_2 hR (inQ_at hq) ⟨fun h => absurd (show r < F q 0 by rw [hI.1]; omega) h, fun _ => ⟨h0, by omega, ?_⟩⟩
    rw [hn, lcmp_0, nm27_inj (hW.2 r h0 (by omega)) hw]
    refine ⟨fun hne => ⟨by omega, ?_⟩, fun he => ?_⟩
    · rw [if_neg hne] at hq2
      exact c_findL hR hq hI hW hw m (r + 1) (by omega) (by omega) hq2
    · rwa [if_pos he] at hq2
theorem c_find {X : Int × (Int → Int)} {k : Nat} {Q : Vv → Fn2 → Fn2 → Fn2 → Prop} {F A R : Fn2} {q : Int} {S : Sp} {w : List Int} (hR : RS R) (hq : inQ q) (hI : SpI q S F A) (hW : WfS S) (hw : lettr w) (hq' : Q (vI (fnd S w)) F A R) : Wp X (k + 1) m_X7_findRoom [vA q, vL (nmB 27 96 w)] F A R Q :=
  Wp.of [vA q, vL (nmB 27 96 w), vN, vN] rfl rfl rfl (b_X7_findRoom_0 (inQ_at hq) (c_findL hR hq hI hW hw (S.1 0 0).toNat 0 (by omega) (by have := hW.1.1; omega) hq'))
theorem c_num1 {X : Int × (Int → Int)} {k : Nat} {Q : Vv → Fn2 → Fn2 → Fn2 → Prop} {F A R : Fn2} {g : Int → Int} {n p K lo hi q i : Int} {S : Sp} {rs : Rs} {f : Int → Int → Rs} (ht : TxC g n A R) (hp : 0 ≤ p) (hpn : p ≤ n) (hk : TkC g n p F) (hq : inQ q) (hI : SpI q S F A) (h0 : 0 ≤ S.1 0 0) (h8 : S.1 0 0 < 8) (h37 : i = 3 ∨ i = 4 ∨ i = 5 ∨ i = 6 ∨ i = 7) (hr : rs = pTk flS g n K p fun p => pNm flS g n lo hi p f) (hq1 : ∀ F' v p', rs = f v p' → lo ≤ v → v ≤ hi → 0 ≤ p' → p' ≤ n → TkC g n p' F' → FT2 F F' → Q (vI 1) F' (st2 A (q + i) (S.1 0 0) v) R) (hq0 : ∀ F', rs = flS (F' 2 7) (F' 2 8) → 0 < F' 2 7 → FT2 F F' → Q (vI 0) F' A R) : Wp X (k + 8) m_X8_takeTold [vA 2, vI K, vI lo, vI hi, vA (q + i), vI (S.1 0 0)] F A R Q := by
  have hqi := hq
  unfold inQ at hqi
  have kk : Y1.1 (q + i) = 0 ∧ Y1.2.1 (q + i) = 8 := by
    rcases h37 with h | h | h | h | h <;> subst h
    · exact ⟨la_Spring_4 (inQ_at hq), ln_Spring_4 (inQ_at hq)⟩
    · exact ⟨la_Spring_5 (inQ_at hq), ln_Spring_5 (inQ_at hq)⟩
    · exact ⟨la_Spring_6 (inQ_at hq), ln_Spring_6 (inQ_at hq)⟩
    · exact ⟨la_Spring_7 (inQ_at hq), ln_Spring_7 (inQ_at hq)⟩
    · exact ⟨la_Spring_8 (inQ_at hq), ln_Spring_8 (inQ_at hq)⟩
  exact c_told (k := k + 1) kk.1 kk.2 (by omega) h0 h8 ht hp hpn hk hr hq1 hq0
theorem c_nums {X : Int × (Int → Int)} {k : Nat} {Q : Vv → Fn2 → Fn2 → Fn2 → Prop} {F A R : Fn2} {g : Int → Int} {n p q : Int} {S : Sp} {rs : Rs} {f : Int → Int → Int → Int → Int → Int → Rs} (ht : TxC g n A R) (hp : 0 ≤ p) (hpn : p ≤ n) (hk : TkC g n p F) (hq : inQ q) (hI : SpI q S F A) (h0 : 0 ≤ S.1 0 0) (h8 : S.1 0 0 < 8) (hr : rs = pTk flS g n 3 p fun x => pNm flS g n 0 60 x fun d x => pTk flS g n 4 x fun x => pNm flS g n 1 99 x fun h x => pTk flS g n 5 x fun x => pNm flS g n 0 30 x fun w x => pTk flS g n 6 x fun x => pNm flS g n 0 999 x fun t x => pTk flS g n 7 x fun x => pNm flS g n 0 30 x fun c x => f d h w t c x)
    (hq1 : ∀ F' A' d h w t c p', rs = f d h w t c p' → 0 ≤ d → d ≤ 60 → 1 ≤ h → h ≤ 99 → 0 ≤ w → w ≤ 30 → 0 ≤ t → t ≤ 999 → 0 ≤ c → c ≤ 30 → 0 ≤ p' → p' ≤ n → TkC g n p' F' → FT2 F F' → A' = st2 (st2 (st2 (st2 (st2 A (q + 3) (S.1 0 0) d) (q + 4) (S.1 0 0) h) (q + 5) (S.1 0 0) w) (q + 6) (S.1 0 0) t) (q + 7) (S.1 0 0) c → Q (vI 1) F' A' R) (hq0 : ∀ F' A', rs = flS (F' 2 7) (F' 2 8) → 0 < F' 2 7 → FQ q F A F' A' → Q (vI 0) F' A' R) : Wp X (k + 9) m_X7_readNumbers [vA q, vA 2] F A R Q := by
  have hR := ht.1
  have ha := inQ_at hq
  have no : ∀ F' A', rs = flS (F' 2 7) (F' 2 8) → 0 < F' 2 7 → FQ q F A F' A' → G X (k + 8) m_X7_readNumbers Q 102 [vA q, vA 2] [] F' A' R := fun F' A' e1 e2 e3 => b_X7_readNumbers_102 ha (hq0 F' A' e1 e2 e3)
  refine Wp.of [vA q, vA 2] rfl rfl rfl (b_X7_readNumbers_0 hR ha ?_)
  rw [hI.1]
  refine c_num1 (k := k) ht hp hpn hk hq hI h0 h8 (by omega) hr (fun F1 d p1 r1 d0 d1 p10 p11 k1 f1 => b_X7_readNumbers_16 hR ha ⟨fun h => absurd h (by decide), fun _ => ?_⟩) (fun F1 e1 e2 e3 => b_X7_readNumbers_16 hR ha ⟨fun _ => no _ _ e1 e2 e3.q, fun h => absurd rfl h⟩)
  have I1 := (hI.ft hq f1).put (i := 3) (v := d) (by omega)
  have T1 := ht.put (i := 3) (j := S.1 0 0) (v := d) hq (by omega)
  have Q1 : FQ q F A F1 (st2 A (q + 3) (S.1 0 0) d) := f1.q.trans (FQ.put (by omega))
  rw [I1.1]
  refine c_num1 (k := k) T1 p10 p11 k1 hq I1 h0 h8 (by omega) r1 (fun F2 h p2 r2 h0' h1' p20 p21 k2 f2 => b_X7_readNumbers_35 hR ha ⟨fun h => absurd h (by decide), fun _ => ?_⟩) (fun F2 e1 e2 e3 => b_X7_readNumbers_35 hR ha ⟨fun _ => no _ _ e1 e2 (Q1.trans e3.q), fun h => absurd rfl h⟩)
  have I2 := (I1.ft hq f2).put (i := 4) (v := h) (by omega)
  have T2 := T1.put (i := 4) (j := S.1 0 0) (v := h) hq (by omega)
  have Q2 := (Q1.trans f2.q).trans (FQ.put (i := 4) (j := S.1 0 0) (v := h) (by omega))
  rw [I2.1]
  refine c_num1 (k := k) T2 p20 p21 k2 hq I2 h0 h8 (by omega) r2 (fun F3 w p3 r3 w0 w1 p30 p31 k3 f3 => b_X7_readNumbers_54 hR ha ⟨fun h => absurd h (by decide), fun _ => ?_⟩) (fun F3 e1 e2 e3 => b_X7_readNumbers_54 hR ha ⟨fun _ => no _ _ e1 e2 (Q2.trans e3.q), fun h => absurd rfl h⟩)
  have I3 := (I2.ft hq f3).put (i := 5) (v := w) (by omega)
  have T3 := T2.put (i := 5) (j := S.1 0 0) (v := w) hq (by omega)
  have Q3 := (Q2.trans f3.q).trans (FQ.put (i := 5) (j := S.1 0 0) (v := w) (by omega))
  rw [I3.1]
  refine c_num1 (k := k) T3 p30 p31 k3 hq I3 h0 h8 (by omega) r3 (fun F4 t p4 r4 t0 t1 p40 p41 k4 f4 => b_X7_readNumbers_75 hR ha ⟨fun h => absurd h (by decide), fun _ => ?_⟩) (fun F4 e1 e2 e3 => b_X7_readNumbers_75 hR ha ⟨fun _ => no _ _ e1 e2 (Q3.trans e3.q), fun h => absurd rfl h⟩)
  have I4 := (I3.ft hq f4).put (i := 6) (v := t) (by omega)
  have T4 := T3.put (i := 6) (j := S.1 0 0) (v := t) hq (by omega)
  have Q4 := (Q3.trans f4.q).trans (FQ.put (i := 6) (j := S.1 0 0) (v := t) (by omega))
  rw [I4.1]
  refine c_num1 (k := k) T4 p40 p41 k4 hq I4 h0 h8 (by omega) r4 (fun F5 c p5 r5 c0 c1 p50 p51 k5 f5 => b_X7_readNumbers_95 ha ⟨fun h => absurd h (by decide), fun _ => ?_⟩) (fun F5 e1 e2 e3 => b_X7_readNumbers_95 ha ⟨fun _ => no _ _ e1 e2 (Q4.trans e3.q), fun h => absurd rfl h⟩)
  exact hq1 F5 _ d h w t c p5 r5 d0 d1 h0' h1' w0 w1 t0 t1 c0 c1 p50 p51 k5 ((((f1.trans f2).trans f3).trans f4).trans f5) rfl
theorem c_up {X : Int × (Int → Int)} {k : Nat} {Q : Vv → Fn2 → Fn2 → Fn2 → Prop} {F A R : Fn2} {g : Int → Int} {n p q d : Int} {S : Sp} {rs : Rs} {f : Int → Int → Rs} (ht : TxC g n A R) (hp : 0 ≤ p) (hpn : p ≤ n) (hk : TkC g n p F) (hq : inQ q) (hI : SpI q S F A) (hW : WfS S) (h8 : S.1 0 0 < 8) (hd : A (q + 3) (S.1 0 0) = d) (hr : rs = pTk flS g n 8 p fun x => pUp g n S d x f)
    (hq1 : ∀ F' u p', rs = f u p' → -1 ≤ u → u < S.1 0 0 → 0 ≤ p' → p' ≤ n → TkC g n p' F' → FT2 F F' → Q (vI 1) F' (st2 A (q + 8) (S.1 0 0) u) R) (hq0 : ∀ F', rs = flS (F' 2 7) (F' 2 8) → 0 < F' 2 7 → FT2 F F' → Q (vI 0) F' A R) : Wp X (k + 8) m_X7_readUp [vA q, vA 2] F A R Q := by
  have hR := ht.1
  have ha := inQ_at hq
  have h0 := hW.1.1.1
  refine Wp.of [vA q, vA 2, vN] rfl rfl rfl (b_X7_readUp_0 ha ?_)
  refine c_take (k := k) ht hp hpn hk hr (fun F1 p1 r1 ep p10 p11 k1 f1 _ => b_X7_readUp_6 hR ha ⟨fun _ => ?_, fun h => absurd h (by decide)⟩) (fun F1 e1 e2 e3 => b_X7_readUp_6 hR ha ⟨fun h => absurd rfl h, fun _ => hq0 _ e1 e2 e3⟩)
  have I1 := hI.ft hq f1
  unfold pUp at r1
  rw [I1.1, k1.2.2.2.1]
  refine ⟨fun n9 => ⟨fun e23 => ?_, fun n23 => ?_⟩, fun e9 => ⟨h0, h8, fun A2 hA2 => ?_⟩⟩
  · rw [if_neg n9, if_pos e23] at r1
    rw [k1.2.2.2.2.2.1 e23]
    refine c_find (k := k + 6) hR hq I1 hW (tW_l (Or.inl e23)) (b_X7_readUp_59 hR ha ?_)
    have fb := fnd_b (S := S) (w := tW g n p1) h0
    refine ⟨fun hu => ?_, fun hu => ?_⟩
    · rw [if_neg hu] at r1
      have hu' : 0 ≤ fnd S (tW g n p1) ∧ fnd S (tW g n p1) < S.1 0 0 := by omega
      rw [I1.1, hd, (I1.2.2.1 _ hu'.1 hu'.2).1 3 (by omega) (by omega) (by omega)]
      refine ⟨hu'.1, by omega, h0, h8, fun hlt A1 hA1 => ?_, fun hge => ?_⟩
      · rw [if_pos hlt] at r1
        subst hA1
        exact k1.next (k := k + 1) (ht.put hq (by omega)) p10 p11 (fun F2 g1 g2 g3 g4 g5 => b_X7_readUp_110 ha (hq1 F2 _ _ r1 (by omega) hu'.2 g4 g5 g1 (f1.trans g2)))
      · rw [if_neg hge] at r1
        exact c_refuse (fl := flS) (k := k + 6) k1 (by decide) (by rw [r1]; unfold rfs; rw [if_neg (by omega)]) (fun F2 g1 g2 g3 => b_X7_readUp_95 ha ⟨by decide, by decide, hq0 F2 g1 g2 (f1.trans g3)⟩)
    · rw [if_pos hu] at r1
      exact c_refuse (fl := flS) (k := k + 6) k1 (by decide) (by rw [r1]; unfold rfs; rw [if_neg (by omega)]) (fun F2 g1 g2 g3 => b_X7_readUp_70 ha ⟨by decide, by decide, hq0 F2 g1 g2 (f1.trans g3)⟩)
  · rw [if_neg n9, if_neg n23] at r1
    exact c_refuse (k := k + 6) k1 (by decide) r1 (fun F2 g1 g2 g3 => b_X7_readUp_50 ha ⟨by decide, by decide, hq0 F2 g1 g2 (f1.trans g3)⟩)
  · rw [if_pos e9] at r1
    subst hA2
    exact k1.next (k := k + 1) (ht.put hq (by omega)) p10 p11 (fun F2 g1 g2 g3 g4 g5 => b_X7_readUp_34 ha (hq1 F2 _ _ r1 (by omega) (by omega) g4 g5 g1 (f1.trans g2)))
theorem addR_0 {S : Sp} {nm : List Int} {V : Int → Int} : (addR S nm V).1 0 0 = S.1 0 0 + 1 ∧ (addR S nm V).1 0 1 = S.1 0 1 := ⟨rfl, rfl⟩
theorem addR_n {S : Sp} {nm : List Int} {V : Int → Int} {i r : Int} (hi : 1 ≤ i) (h : r ≠ S.1 0 0 ∨ 9 ≤ i) : (addR S nm V).1 i r = S.1 i r := by
  show (if i = 0 then _ else if r = S.1 0 0 ∧ i ≤ 8 then V i else S.1 i r) = _
  rw [if_neg (by omega), if_neg (by omega)]
theorem addR_s {S : Sp} {nm : List Int} {V : Int → Int} {i : Int} (hi : 1 ≤ i) (h : i ≤ 8) : (addR S nm V).1 i (S.1 0 0) = V i := by
  show (if i = 0 then _ else if S.1 0 0 = S.1 0 0 ∧ i ≤ 8 then V i else S.1 i (S.1 0 0)) = _
  rw [if_neg (by omega), if_pos ⟨rfl, h⟩]
theorem addR_W {S : Sp} {nm : List Int} {k d h w t c u : Int} (hW : WfS S) (h8 : S.1 0 0 < 8) (hn : lettr nm) (d0 : 0 ≤ d) (d1 : d ≤ 60) (h0 : 1 ≤ h) (h1 : h ≤ 99) (w0 : 0 ≤ w) (w1 : w ≤ 30) (t0 : 0 ≤ t) (t1 : t ≤ 999) (c0 : 0 ≤ c) (c1 : c ≤ 30) (u0 : -1 ≤ u) (u1 : u < S.1 0 0) : WfS (addR S nm (rmV k d h w t c u)) := by
  obtain ⟨⟨a, b, c'⟩, e⟩ := hW
  refine ⟨⟨⟨by rw [addR_0.1]; omega, by rw [addR_0.1]; omega, by rw [addR_0.2]; omega, by rw [addR_0.2]; omega⟩, fun r r0 r1 => ?_, fun j j0 j1 => ?_⟩, fun r r0 r1 => ?_⟩
  · rw [addR_0.1] at r1
    by_cases er : r = S.1 0 0
    · subst er
      rw [addR_s (by decide) (by decide), addR_s (by decide) (by decide), addR_s (by decide) (by decide), addR_s (by decide) (by decide), addR_s (by decide) (by decide), addR_s (by decide) (by decide)]
      unfold rmV
      simp only [if_true, if_false, show ¬ (4 : Int) = 1 by decide, show ¬ (4 : Int) = 3 by decide, show ¬ (6 : Int) = 1 by decide, show ¬ (6 : Int) = 3 by decide, show ¬ (6 : Int) = 4 by decide, show ¬ (6 : Int) = 5 by decide, show ¬ (7 : Int) = 1 by decide, show ¬ (7 : Int) = 3 by decide, show ¬ (7 : Int) = 4 by decide, show ¬ (7 : Int) = 5 by decide, show ¬ (7 : Int) = 6 by decide, show ¬ (8 : Int) = 1 by decide, show ¬ (8 : Int) = 3 by decide, show ¬ (8 : Int) = 4 by decide, show ¬ (8 : Int) = 5 by decide, show ¬ (8 : Int) = 6 by decide, show ¬ (8 : Int) = 7 by decide, show ¬ (5 : Int) = 1 by decide, show ¬ (5 : Int) = 3 by decide, show ¬ (5 : Int) = 4 by decide, show ¬ (3 : Int) = 1 by decide]
      omega
    · rw [addR_n (by decide) (Or.inl er), addR_n (by decide) (Or.inl er), addR_n (by decide) (Or.inl er), addR_n (by decide) (Or.inl er), addR_n (by decide) (Or.inl er), addR_n (by decide) (Or.inl er)]
      exact b r r0 (by omega)
  · rw [addR_0.2] at j1
    rw [addR_0.1, addR_n (i := 9) (by decide) (Or.inr (by decide)), addR_n (i := 10) (by decide) (Or.inr (by decide)), addR_n (i := 11) (by decide) (Or.inr (by decide))]
    have := c' j j0 j1
    omega
  · rw [addR_0.1] at r1
    show lettr (if r = S.1 0 0 then nm else S.2 r)
    by_cases er : r = S.1 0 0
    · rw [if_pos er]; exact hn
    · rw [if_neg er]; exact e r r0 (by omega)
theorem addR_I {q : Int} {S : Sp} {nm : List Int} {V : Int → Int} {F A F' : Fn2} (hI : SpI q S F A) (hF : F' = st2 F q 0 (S.1 0 0 + 1)) (hV : ∀ i, 1 ≤ i → i ≤ 8 → i ≠ 2 → A (q + i) (S.1 0 0) = V i) (hn : A (q + 2) (S.1 0 0) = nmB 27 96 nm) : SpI q (addR S nm V) F' A := by
  obtain ⟨h1, h2, h3, h4⟩ := hI
  refine ⟨by rw [hF, st2_s, u1_s]; rfl, by rw [hF, st2_s, u1_n (by decide), h2]; rfl, fun r r0 r1 => ?_, fun j j0 j1 i i0 i1 => ?_⟩
  · rw [addR_0.1] at r1
    by_cases er : r = S.1 0 0
    · subst er
      refine ⟨fun i a b c => by rw [addR_s a b]; exact hV i a b c, ?_⟩
      show _ = nmB 27 96 (if S.1 0 0 = S.1 0 0 then nm else _)
      rw [if_pos rfl]; exact hn
    · refine ⟨fun i a b c => by rw [addR_n a (Or.inl er)]; exact (h3 r r0 (by omega)).1 i a b c, ?_⟩
      show _ = nmB 27 96 (if r = S.1 0 0 then nm else S.2 r)
      rw [if_neg er]; exact (h3 r r0 (by omega)).2
  · rw [addR_0.2] at j1
    rw [addR_n (by omega) (Or.inr i0)]; exact h4 j j0 j1 i i0 i1
theorem c_rdRoom {X : Int × (Int → Int)} {k : Nat} {Q : Vv → Fn2 → Fn2 → Fn2 → Prop} {F A R : Fn2} {g : Int → Int} {n p q kd : Int} {S : Sp} {rs : Rs} {f : Sp → Int → Rs} (ht : TxC g n A R) (hp : 0 ≤ p) (hpn : p ≤ n) (hk : TkC g n p F) (hq : inQ q) (hI : SpI q S F A) (hW : WfS S) (h8 : S.1 0 0 < 8) (hkd : tK g n p = kd) (hr : rs = pRoom g n S kd (tE g n p) f)
    (hq1 : ∀ F' A' S' p', rs = f S' p' → SpI q S' F' A' → WfS S' → S'.1 0 0 = S.1 0 0 + 1 → S'.1 0 1 = S.1 0 1 → 0 ≤ p' → p' ≤ n → TkC g n p' F' → FQ q F A F' A' → Q (vI 1) F' A' R) (hq0 : ∀ F' A', rs = flS (F' 2 7) (F' 2 8) → 0 < F' 2 7 → FQ q F A F' A' → Q (vI 0) F' A' R) : Wp X (k + 10) m_X7_readRoom [vA q, vA 2] F A R Q := by
  have hR := ht.1
  have ha := inQ_at hq
  have h0 := hW.1.1.1
  have hqq := hq
  unfold inQ at hqq
  refine Wp.of [vA q, vA 2] rfl rfl rfl (b_X7_readRoom_0 hR ha ?_)
  rw [hI.1]
  refine ⟨h0, h8, fun A1 hA1 => ?_⟩
  rw [hk.2.2.2.1, hkd] at hA1
  have T1 : TxC g n A1 R := by rw [hA1]; exact ht.put hq (by omega)
  have I1 : SpI q S F A1 := by rw [hA1]; exact hI.put (by omega)
  have Q1 : FQ q F A F A1 := by rw [hA1]; exact FQ.put (by omega)
  have v1 : A1 (q + 1) (S.1 0 0) = kd := by rw [hA1, st2_s, u1_s]
  refine hk.next (k := k + 3) T1 hp hpn (fun F1 k1 f1 _ p0 p1 => b_X7_readRoom_17 ha ?_)
  have I2 := I1.ft hq f1
  have Q2 := Q1.trans (f1.q (A := A1))
  unfold pRoom at hr
  rw [k1.2.2.2.1]
  refine ⟨fun e23 => ?_, fun n23 => ?_⟩
  · rw [if_pos e23] at hr
    have hl := tW_l (g := g) (n := n) (p := tE g n p) (Or.inl e23)
    rw [k1.2.2.2.2.2.1 e23]
    refine c_find (k := k + 8) hR hq I2 hW hl (b_X7_readRoom_40 hR ha ⟨fun hno => ?_, fun hyes => ?_⟩)
    · rw [if_pos hno] at hr
      rw [I2.1]
      refine ⟨h0, h8, fun A2 hA2 => ?_⟩
      rw [k1.2.2.2.2.2.1 e23] at hA2
      have T2 : TxC g n A2 R := by rw [hA2]; exact T1.put hq (by omega)
      have I3 : SpI q S F1 A2 := by rw [hA2]; exact I2.put (by omega)
      have Q3 : FQ q F A F1 A2 := Q2.trans (by rw [hA2]; exact FQ.put (by omega))
      have v2 : A2 (q + 2) (S.1 0 0) = nmB 27 96 (tW g n (tE g n p)) := by rw [hA2, st2_s, u1_s]
      have v1' : A2 (q + 1) (S.1 0 0) = kd := by rw [hA2, st2_n (by omega), v1]
      refine k1.next (k := k + 3) T2 p0 p1 (fun F2 k2 f2 _ p20 p21 => b_X7_readRoom_67 ha ?_)
      refine c_nums (k := k) (S := S) T2 p20 p21 k2 hq (I3.ft hq f2) h0 h8 hr (fun F3 A3 d h w t c p3 r3 d0 d1 h0' h1' w0 w1 t0 t1 c0 c1 p30 p31 k3 f3 hA3 => b_X7_readRoom_72 ha ⟨fun h => absurd h (by decide), fun _ => ?_⟩) (fun F3 A3 e1 e2 e3 => b_X7_readRoom_72 ha ⟨fun _ => hq0 _ _ e1 e2 ((Q3.trans f2.q).trans e3), fun h => absurd rfl h⟩)
      have I5 : SpI q S F3 A3 := by
        rw [hA3]
        exact (((((I3.ft hq (f2.trans f3)).put (by omega)).put (by omega)).put (by omega)).put (by omega)).put (by omega)
      have T3 : TxC g n A3 R := by
        rw [hA3]
        exact ((((T2.put hq (by omega)).put hq (by omega)).put hq (by omega)).put hq (by omega)).put hq (by omega)
      have Q5 : FQ q F A F3 A3 := by
        rw [hA3]
        exact ((((((Q3.trans f2.q).trans f3.q).trans (FQ.put (by omega))).trans (FQ.put (by omega))).trans (FQ.put (by omega))).trans (FQ.put (by omega))).trans (FQ.put (by omega))
      have w3 : A3 (q + 3) (S.1 0 0) = d := by rw [hA3, st2_n (by omega), st2_n (by omega), st2_n (by omega), st2_n (by omega), st2_s, u1_s]
      have w4 : A3 (q + 4) (S.1 0 0) = h := by rw [hA3, st2_n (by omega), st2_n (by omega), st2_n (by omega), st2_s, u1_s]
      have w5 : A3 (q + 5) (S.1 0 0) = w := by rw [hA3, st2_n (by omega), st2_n (by omega), st2_s, u1_s]
      have w6 : A3 (q + 6) (S.1 0 0) = t := by rw [hA3, st2_n (by omega), st2_s, u1_s]
      have w7 : A3 (q + 7) (S.1 0 0) = c := by rw [hA3, st2_s, u1_s]
      have w1' : A3 (q + 1) (S.1 0 0) = kd := by rw [hA3, st2_n (by omega), st2_n (by omega), st2_n (by omega), st2_n (by omega), st2_n (by omega), v1']
      have w2' : A3 (q + 2) (S.1 0 0) = nmB 27 96 (tW g n (tE g n p)) := by rw [hA3, st2_n (by omega), st2_n (by omega), st2_n (by omega), st2_n (by omega), st2_n (by omega), v2]
      refine c_up (k := k + 1) T3 p30 p31 k3 hq I5 hW h8 w3 r3 (fun F4 u p4 r4 u0 u1' p40 p41 k4 f4 => b_X7_readRoom_80 ha ⟨fun h => absurd h (by decide), fun _ => ?_⟩) (fun F4 e1 e2 e3 => b_X7_readRoom_80 ha ⟨fun _ => hq0 _ _ e1 e2 (Q5.trans e3.q), fun h => absurd rfl h⟩)
      have I6 := (I5.ft hq f4).put (i := 8) (v := u) (by omega)
      have T4 := T3.put (i := 8) (j := S.1 0 0) (v := u) hq (by omega)
      have Q6 := (Q5.trans f4.q).trans (FQ.put (i := 8) (j := S.1 0 0) (v := u) (by omega))
      refine c_take (k := k + 2) T4 p40 p41 k4 r4 (fun F5 p5 r5 _ p50 p51 k5 f5 _ => b_X7_readRoom_89 ha ⟨fun _ => ?_, fun h => absurd h (by decide)⟩) (fun F5 e1 e2 e3 => b_X7_readRoom_89 ha ⟨fun h => absurd rfl h, fun _ => hq0 _ _ e1 e2 (Q6.trans e3.q)⟩)
      have I7 := I6.ft hq f5
      rw [I7.1]
      refine ⟨by omega, fun F6 hF6 => ?_⟩
      have k6 : TkC g n p5 F6 := by
        obtain ⟨y1, y2, y3, y4, y5, y6⟩ := k5
        have e2 : F6 2 = F5 2 := by rw [hF6, st2_n (by omega)]
        unfold TkC
        rw [e2]
        exact ⟨y1, y2, y3, y4, y5, y6⟩
      refine hq1 F6 _ _ p5 r5 (addR_I I7 hF6 (fun i i1 i8 i2 => ?_) ?_) (addR_W hW h8 hl d0 d1 h0' h1' w0 w1 t0 t1 c0 c1 u0 u1') rfl rfl p50 p51 k6 ((Q6.trans f5.q).trans ⟨fun a f x y => by rw [hF6, st2_n x], fun _ _ => rfl⟩)
      · unfold rmV
        have hi : i = 1 ∨ i = 3 ∨ i = 4 ∨ i = 5 ∨ i = 6 ∨ i = 7 ∨ i = 8 := by omega
        rcases hi with hi | hi | hi | hi | hi | hi | hi <;> subst hi
        · rw [st2_n (by omega), w1']; rfl
        · rw [st2_n (by omega), w3]; rfl
        · rw [st2_n (by omega), w4]; rfl
        · rw [st2_n (by omega), w5]; rfl
        · rw [st2_n (by omega), w6]; rfl
        · rw [st2_n (by omega), w7]; rfl
        · rw [st2_s, u1_s]; rfl
      · rw [st2_n (by omega), w2']
    · rw [if_neg hyes] at hr
      exact c_refuse (fl := flS) (k := k + 8) k1 (by decide) (by rw [hr]; unfold rfs; rw [if_neg (by omega)]) (fun F' g1 g2 g3 => b_X7_readRoom_49 ha ⟨by decide, by decide, hq0 _ _ g1 g2 (Q2.trans g3.q)⟩)
  · rw [if_neg n23] at hr
    exact c_refuse (k := k + 8) k1 (by decide) hr (fun F' g1 g2 g3 => b_X7_readRoom_31 ha ⟨by decide, by decide, hq0 _ _ g1 g2 (Q2.trans g3.q)⟩)
theorem c_joined {X : Int × (Int → Int)} {k : Nat} {Q : Vv → Fn2 → Fn2 → Fn2 → Prop} {F A R : Fn2} {g : Int → Int} {n p q but i : Int} {S : Sp} {rs : Rs} {f : Int → Int → Rs} (ht : TxC g n A R) (hp : 0 ≤ p) (hpn : p ≤ n) (hk : TkC g n p F) (hq : inQ q) (hI : SpI q S F A) (hW : WfS S) (h4 : S.1 0 1 < 4) (hi : i = 9 ∨ i = 10) (hr : rs = pJd g n S but p f)
    (hq1 : ∀ F' u p', rs = f u p' → 0 ≤ u → u < S.1 0 0 → u ≠ but → 0 ≤ p' → p' ≤ n → TkC g n p' F' → FT2 F F' → Q (vI 1) F' (st2 A (q + i) (S.1 0 1) u) R) (hq0 : ∀ F', rs = flS (F' 2 7) (F' 2 8) → 0 < F' 2 7 → FT2 F F' → Q (vI 0) F' A R) : Wp X (k + 8) m_X7_readJoined [vA q, vA 2, vA (q + i), vI but] F A R Q := by
  have hR := ht.1
  have ha := inQ_at hq
  have h0 := hW.1.1
  have kk : Y1.1 (q + i) = 0 ∧ Y1.2.1 (q + i) = 4 := by
    rcases hi with h | h <;> subst h
    · exact ⟨la_Spring_10 ha, ln_Spring_10 ha⟩
    · exact ⟨la_Spring_11 ha, ln_Spring_11 ha⟩
  unfold pJd at hr
  refine Wp.of [vA q, vA 2, vA (q + i), vI but, vN] rfl rfl rfl (b_X7_readJoined_0 ha kk.1 kk.2 ?_)
  rw [hk.2.2.2.1]
  refine ⟨fun e23 => ?_, fun n23 => ?_⟩
  · rw [if_pos e23] at hr
    rw [hk.2.2.2.2.2.1 e23]
    have fb := fnd_b (S := S) (w := tW g n p) h0.1
    refine c_find (k := k + 6) hR hq hI hW (tW_l (Or.inl e23)) (b_X7_readJoined_23 ha kk.1 kk.2 ⟨fun hu => ⟨fun hb => ?_, fun hb => ?_⟩, fun hu => ?_⟩)
    · rw [if_neg hu, if_neg hb] at hr
      rw [hI.2.1]
      refine ⟨by omega, h4, fun A1 hA1 => ?_⟩
      subst hA1
      exact hk.next (k := k + 1) (ht.put hq (by omega)) hp hpn (fun F2 g1 g2 g3 g4 g5 => b_X7_readJoined_62 ha kk.1 kk.2 (hq1 F2 _ _ hr (by omega) (by omega) hb g4 g5 g1 g2))
    · rw [if_neg hu, if_pos hb] at hr
      exact c_refuse (fl := flS) (k := k + 6) hk (by decide) (by rw [hr]; unfold rfs; rw [if_neg (by omega)]) (fun F2 g1 g2 g3 => b_X7_readJoined_49 ha kk.1 kk.2 ⟨by decide, by decide, hq0 F2 g1 g2 g3⟩)
    · rw [if_pos hu] at hr
      exact c_refuse (fl := flS) (k := k + 6) hk (by decide) (by rw [hr]; unfold rfs; rw [if_neg (by omega)]) (fun F2 g1 g2 g3 => b_X7_readJoined_36 ha kk.1 kk.2 ⟨by decide, by decide, hq0 F2 g1 g2 g3⟩)
  · rw [if_neg n23] at hr
    exact c_refuse (k := k + 6) hk (by decide) hr (fun F2 g1 g2 g3 => b_X7_readJoined_14 ha kk.1 kk.2 ⟨by decide, by decide, hq0 F2 g1 g2 g3⟩)
theorem addJ_0 {S : Sp} {a b w : Int} : (addJ S a b w).1 0 0 = S.1 0 0 ∧ (addJ S a b w).1 0 1 = S.1 0 1 + 1 := ⟨rfl, rfl⟩
theorem addJ_n {S : Sp} {a b w i r : Int} (hi : 1 ≤ i) (h : r ≠ S.1 0 1 ∨ i ≤ 8) : (addJ S a b w).1 i r = S.1 i r := by
  show (if i = 0 then _ else if r = S.1 0 1 ∧ 9 ≤ i then _ else S.1 i r) = _
  rw [if_neg (by omega), if_neg (by omega)]
theorem addJ_s {S : Sp} {a b w i : Int} (hi : 9 ≤ i) : (addJ S a b w).1 i (S.1 0 1) = if i = 9 then a else if i = 10 then b else w := by
  show (if i = 0 then _ else if S.1 0 1 = S.1 0 1 ∧ 9 ≤ i then _ else _) = _
  rw [if_neg (by omega), if_pos ⟨rfl, hi⟩]
theorem addJ_W {S : Sp} {a b w : Int} (hW : WfS S) (h4 : S.1 0 1 < 4) (a0 : 0 ≤ a) (a1 : a < S.1 0 0) (b0 : 0 ≤ b) (b1 : b < S.1 0 0) (hab : b ≠ a) (w0 : 0 ≤ w) (w1 : w ≤ 30) : WfS (addJ S a b w) := by
  obtain ⟨⟨x, y, z⟩, e⟩ := hW
  refine ⟨⟨⟨by rw [addJ_0.1]; omega, by rw [addJ_0.1]; omega, by rw [addJ_0.2]; omega, by rw [addJ_0.2]; omega⟩, fun r r0 r1 => ?_, fun j j0 j1 => ?_⟩, fun r r0 r1 => e r r0 r1⟩
  · rw [addJ_n (i := 4) (by decide) (Or.inr (by decide)), addJ_n (i := 6) (by decide) (Or.inr (by decide)), addJ_n (i := 7) (by decide) (Or.inr (by decide)), addJ_n (i := 8) (by decide) (Or.inr (by decide)), addJ_n (i := 5) (by decide) (Or.inr (by decide)), addJ_n (i := 3) (by decide) (Or.inr (by decide))]
    exact y r r0 r1
  · rw [addJ_0.2] at j1
    rw [addJ_0.1]
    by_cases ej : j = S.1 0 1
    · subst ej
      rw [addJ_s (by decide), addJ_s (by decide), addJ_s (by decide), if_pos rfl, if_neg (by decide), if_pos rfl, if_neg (by decide), if_neg (by decide)]
      exact ⟨a0, a1, b0, b1, fun h => hab h.symm, w0, w1⟩
    · rw [addJ_n (i := 9) (by decide) (Or.inl ej), addJ_n (i := 10) (by decide) (Or.inl ej), addJ_n (i := 11) (by decide) (Or.inl ej)]
      exact z j j0 (by omega)
theorem addJ_I {q : Int} {S : Sp} {a b w : Int} {F A F' : Fn2} (hI : SpI q S F A) (hF : F' = st2 F q 1 (S.1 0 1 + 1)) (ha : A (q + 9) (S.1 0 1) = a) (hb : A (q + 10) (S.1 0 1) = b) (hw : A (q + 11) (S.1 0 1) = w) : SpI q (addJ S a b w) F' A := by
  obtain ⟨h1, h2, h3, h4⟩ := hI
  refine ⟨by rw [hF, st2_s, u1_n (by decide), h1]; rfl, by rw [hF, st2_s, u1_s]; rfl, fun r r0 r1 => ⟨fun i i1 i8 i2 => ?_, (h3 r r0 r1).2⟩, fun j j0 j1 i i0 i1 => ?_⟩
  · rw [addJ_n i1 (Or.inr i8)]; exact (h3 r r0 r1).1 i i1 i8 i2
  · rw [addJ_0.2] at j1
    by_cases ej : j = S.1 0 1
    · subst ej
      rw [addJ_s i0]
      have hi : i = 9 ∨ i = 10 ∨ i = 11 := by omega
      rcases hi with hi | hi | hi <;> subst hi
      · rw [ha]; rfl
      · rw [hb]; rfl
      · rw [hw]; rfl
    · rw [addJ_n (by omega) (Or.inl ej)]; exact h4 j j0 (by omega) i i0 i1
theorem c_rdJoin {X : Int × (Int → Int)} {k : Nat} {Q : Vv → Fn2 → Fn2 → Fn2 → Prop} {F A R : Fn2} {g : Int → Int} {n p q : Int} {S : Sp} {rs : Rs} {f : Sp → Int → Rs} (ht : TxC g n A R) (hp : 0 ≤ p) (hpn : p ≤ n) (hk : TkC g n p F) (hq : inQ q) (hI : SpI q S F A) (hW : WfS S) (h4 : S.1 0 1 < 4) (hr : rs = pJoin g n S (tE g n p) f)
    (hq1 : ∀ F' A' S' p', rs = f S' p' → SpI q S' F' A' → WfS S' → S'.1 0 0 = S.1 0 0 → S'.1 0 1 = S.1 0 1 + 1 → 0 ≤ p' → p' ≤ n → TkC g n p' F' → FQ q F A F' A' → Q (vI 1) F' A' R) (hq0 : ∀ F' A', rs = flS (F' 2 7) (F' 2 8) → 0 < F' 2 7 → FQ q F A F' A' → Q (vI 0) F' A' R) : Wp X (k + 9) m_X7_readJoin [vA q, vA 2] F A R Q := by
  have hR := ht.1
  have ha := inQ_at hq
  have h0 := hW.1.1
  have hqq := hq
  unfold inQ at hqq
  refine Wp.of [vA q, vA 2] rfl rfl rfl (b_X7_readJoin_0 ha (hk.next (k := k + 2) ht hp hpn (fun F1 k1 f1 _ p0 p1 => b_X7_readJoin_4 hR ha ?_)))
  have I1 := hI.ft hq f1
  refine c_joined (k := k) ht p0 p1 k1 hq I1 hW h4 (by omega) hr (fun F2 a p2 r2 a0 a1 _ p20 p21 k2 f2 => b_X7_readJoin_14 hR ha ⟨fun _ => ?_, fun h => absurd h (by decide)⟩) (fun F2 e1 e2 e3 => b_X7_readJoin_14 hR ha ⟨fun h => absurd rfl h, fun _ => hq0 _ _ e1 e2 (f1.trans e3).q⟩)
  have I2 := (I1.ft hq f2).putJ (i := 9) (v := a) (by omega)
  have T2 := ht.put (i := 9) (j := S.1 0 1) (v := a) hq (by omega)
  have Q2 : FQ q F A F2 (st2 A (q + 9) (S.1 0 1) a) := (f1.trans f2).q.trans (FQ.put (by omega))
  rw [I2.2.1, st2_s, u1_s]
  refine ⟨by omega, h4, ?_⟩
  refine c_joined (k := k) T2 p20 p21 k2 hq I2 hW h4 (by omega) r2 (fun F3 b p3 r3 b0 b1 hab p30 p31 k3 f3 => b_X7_readJoin_37 hR ha ⟨fun _ => ?_, fun h => absurd h (by decide)⟩) (fun F3 e1 e2 e3 => b_X7_readJoin_37 hR ha ⟨fun h => absurd rfl h, fun _ => hq0 _ _ e1 e2 (Q2.trans e3.q)⟩)
  have I3 := (I2.ft hq f3).putJ (i := 10) (v := b) (by omega)
  have T3 := T2.put (i := 10) (j := S.1 0 1) (v := b) hq (by omega)
  have Q3 := (Q2.trans f3.q).trans (FQ.put (i := 10) (j := S.1 0 1) (v := b) (by omega))
  rw [I3.2.1]
  refine c_told (k := k + 1) (la_Spring_12 ha) (ln_Spring_12 ha) (by omega) (by omega) h4 T3 p30 p31 k3 r3 (fun F4 w p4 r4 w0 w1 p40 p41 k4 f4 => b_X7_readJoin_58 ha ⟨fun h => absurd h (by decide), fun _ => ?_⟩) (fun F4 e1 e2 e3 => b_X7_readJoin_58 ha ⟨fun _ => hq0 _ _ e1 e2 (Q3.trans e3.q), fun h => absurd rfl h⟩)
  have I4 := I3.ft hq f4
  obtain ⟨A5, hA5⟩ : ∃ A5, A5 = st2 (st2 (st2 A (q + 9) (S.1 0 1) a) (q + 10) (S.1 0 1) b) (q + 11) (S.1 0 1) w := ⟨_, rfl⟩
  rw [← hA5]
  have I5 : SpI q S F4 A5 := by rw [hA5]; exact I4.putJ (by omega)
  have T5 : TxC g n A5 R := by rw [hA5]; exact T3.put hq (by omega)
  have Q5 : FQ q F A F4 A5 := (Q3.trans f4.q).trans (by rw [hA5]; exact FQ.put (by omega))
  refine c_take (k := k + 1) T5 p40 p41 k4 r4 (fun F5 p5 r5 _ p50 p51 k5 f5 _ => b_X7_readJoin_67 ha ⟨fun _ => ?_, fun h => absurd h (by decide)⟩) (fun F5 e1 e2 e3 => b_X7_readJoin_67 ha ⟨fun h => absurd rfl h, fun _ => hq0 _ _ e1 e2 (Q5.trans e3.q)⟩)
  have I6 := I5.ft hq f5
  rw [I6.2.1]
  refine ⟨by omega, fun F6 hF6 => ?_⟩
  have k6 : TkC g n p5 F6 := by
    have e2 : F6 2 = F5 2 := by rw [hF6, st2_n (by omega)]
    unfold TkC
    rw [e2]
    exact k5
  refine hq1 F6 A5 _ p5 r5 (addJ_I I6 hF6 ?_ ?_ ?_) (addJ_W hW h4 a0 a1 b0 b1 hab w0 w1) rfl rfl p50 p51 k6 ((Q5.trans f5.q).trans ⟨fun a f x y => by rw [hF6, st2_n x], fun _ _ => rfl⟩)
  · rw [hA5, st2_n (by omega), st2_n (by omega), st2_s, u1_s]
  · rw [hA5, st2_n (by omega), st2_s, u1_s]
  · rw [hA5, st2_s, u1_s]
theorem c_linesL {X : Int × (Int → Int)} {k : Nat} {Q : Vv → Fn2 → Fn2 → Fn2 → Prop} {R : Fn2} {g : Int → Int} {n q : Int} {rs : Rs} {F0 A0 : Fn2} (hq : inQ q) (hq1 : ∀ F' A' S', rs = okS S' → SpI q S' F' A' → WfS S' → FQ q F0 A0 F' A' → F' 2 7 = 0 → F' 2 8 = -1 → Q (vI 1) F' A' R) (hq0 : ∀ F' A', rs = flS (F' 2 7) (F' 2 8) → 0 < F' 2 7 → FQ q F0 A0 F' A' → Q (vI 0) F' A' R) : ∀ (m : Nat) (F A : Fn2) (S : Sp) (p : Int) (w : Vv), TxC g n A R → 0 ≤ p → p ≤ n → TkC g n p F → SpI q S F A → WfS S → S.1 0 0 + S.1 0 1 + m = 13 → FQ q F0 A0 F A → rs = pLines g n m S p → G X (k + 10) m_X7_readText Q 12 [vA q, vA 2, vI (13 - m), w] [] F A R := by
  intro m
  induction m with
  | zero =>
    intro F A S p w ht hp hpn hk hI hW hm hF hr
    have := hW.1.1
    omega
  | succ m ih =>
    intro F A S p w ht hp hpn hk hI hW hm hF hr
    have ha := inQ_at hq
    have hb := hW.1.1
    have hr' : rs = if tK g n p = 20 then okS S else if tK g n p ≤ 2 ∧ S.1 0 0 < 8 then pRoom g n S (tK g n p) (tE g n p) (pLines g n m) else if tK g n p = 10 ∧ S.1 0 1 < 4 then pJoin g n S (tE g n p) (pLines g n m) else rfs flS g n p 2 := hr
    have ref : ¬ tK g n p = 20 → ¬ (tK g n p ≤ 2 ∧ S.1 0 0 < 8) → ¬ (tK g n p = 10 ∧ S.1 0 1 < 4) → Wp X (k + 10) m_X8_refuse [vA 2, vI 2] F A R (fun v F A R => G X (k + 10) m_X7_readText Q 84 [vA q, vA 2, vI (13 - (m + 1 : Nat)), w] [v] F A R) := fun h1 h2 h3 => by
      rw [if_neg h1, if_neg h2, if_neg h3] at hr'
      exact c_refuse (k := k + 9) hk (by decide) hr' (fun F' e1 e2 e3 => b_X7_readText_84 ha ⟨fun h => absurd rfl h, fun _ => hq0 F' A e1 e2 (hF.trans e3.q)⟩)
    have jn : ¬ tK g n p = 20 → ¬ (tK g n p ≤ 2 ∧ S.1 0 0 < 8) → tK g n p = 10 ∧ S.1 0 1 < 4 → Wp X (k + 10) m_X7_readJoin [vA q, vA 2] F A R (fun v F A R => G X (k + 10) m_X7_readText Q 75 [vA q, vA 2, vI (13 - (m + 1 : Nat)), w] [v] F A R) := fun h1 h2 h3 => by
      rw [if_neg h1, if_neg h2, if_pos h3] at hr'
      refine c_rdJoin (k := k + 1) ht hp hpn hk hq hI hW h3.2 hr' (fun F' A' S' p' r1 i1 i2 i3 i4 p0 p1 k1 q1 => b_X7_readText_75 ha ⟨fun _ => ⟨by omega, ?_⟩, fun h => absurd h (by decide)⟩) (fun F' A' e1 e2 e3 => b_X7_readText_75 ha ⟨fun h => absurd rfl h, fun _ => hq0 F' A' e1 e2 (hF.trans e3)⟩)
      rw [show 13 - ((m + 1 : Nat) : Int) + 1 = 13 - (m : Int) by omega]
      exact ih F' A' S' p' _ (ht.fq (by unfold inQ at hq; omega) q1) p0 p1 k1 i1 i2 (by omega) (hF.trans q1) r1
    refine b_X7_readText_12 ha ?_
    rw [hk.2.2.2.1, hI.1, hI.2.1]
    refine ⟨fun h => by omega, fun _ => ⟨fun e20 => ?_, fun n20 => ⟨fun h2 => ⟨fun h10 => ref n20 (by omega) (by omega), fun h10 => ⟨fun h4 => ref n20 (by omega) (by omega), fun h4 => jn n20 (by omega) ⟨h10, h4⟩⟩⟩, fun h2 => ⟨fun h8 => ⟨fun h10 => ref n20 (by omega) (by omega), fun h10 => by omega⟩, fun h8 => ?_⟩⟩⟩⟩
    · rw [if_pos e20] at hr'
      exact hq1 F A S hr' hI hW hF hk.2.2.2.2.2.2.1 hk.2.2.2.2.2.2.2
    · rw [if_neg n20, if_pos ⟨by omega, h8⟩] at hr'
      refine c_rdRoom (k := k) ht hp hpn hk hq hI hW h8 rfl hr' (fun F' A' S' p' r1 i1 i2 i3 i4 p0 p1 k1 q1 => b_X7_readText_49 ha ⟨fun _ => ⟨by omega, ?_⟩, fun h => absurd h (by decide)⟩) (fun F' A' e1 e2 e3 => b_X7_readText_49 ha ⟨fun h => absurd rfl h, fun _ => hq0 F' A' e1 e2 (hF.trans e3)⟩)
      rw [show 13 - ((m + 1 : Nat) : Int) + 1 = 13 - (m : Int) by omega]
      exact ih F' A' S' p' _ (ht.fq (by unfold inQ at hq; omega) q1) p0 p1 k1 i1 i2 (by omega) (hF.trans q1) r1
theorem c_rdS {X : Int × (Int → Int)} {k : Nat} {Q : Vv → Fn2 → Fn2 → Fn2 → Prop} {F A R : Fn2} {g : Int → Int} {n q : Int} (ht : TxC g n A R) (hn : 0 ≤ n) (hk : TkC g n 0 F) (hq : inQ q) (hq1 : ∀ F' A' S', rdS g n = okS S' → SpI q S' F' A' → WfS S' → FQ q F A F' A' → F' 2 7 = 0 → F' 2 8 = -1 → Q (vI 1) F' A' R) (hq0 : ∀ F' A', rdS g n = flS (F' 2 7) (F' 2 8) → 0 < F' 2 7 → FQ q F A F' A' → Q (vI 0) F' A' R) : Wp X (k + 11) m_X7_readText [vA q, vA 2] F A R Q := by
  have hqq := hq
  unfold inQ at hqq
  refine Wp.of [vA q, vA 2, vN, vN] rfl rfl rfl (b_X7_readText_0 (inQ_at hq) fun F1 hF1 F2 hF2 => ?_)
  have k2 : TkC g n 0 F2 := by
    have e2 : F2 2 = F 2 := by rw [hF2, hF1, st2_n (by omega), st2_n (by omega)]
    unfold TkC
    rw [e2]
    exact hk
  refine c_linesL (k := k) (F0 := F) (A0 := A) hq hq1 hq0 13 F2 A S0 0 vN ht (by omega) hn k2 ⟨?_, ?_, fun r a b => ?_, fun j a b => ?_⟩ ⟨⟨by decide, fun r a b => ?_, fun r a b => ?_⟩, fun r a b => ?_⟩ rfl ⟨fun a f x y => by rw [hF2, hF1, st2_n x, st2_n x], fun _ _ => rfl⟩ rfl
  · rw [hF2, st2_s, u1_n (by decide), hF1, st2_s, u1_s]; rfl
  · rw [hF2, st2_s, u1_s]; rfl
  all_goals (have b' : _ < (0 : Int) := b; omega)
