/-! THE CLASS READS A LAW -/
theorem CR_app {f : Int → Int} : ∀ (a b : List Int) (i : Int), CR f i (a ++ b) ↔ CR f i a ∧ CR f (i + a.length) b
  | [], b, i => by
    show CR f i b ↔ True ∧ CR f (i + (0 : Nat)) b
    rw [show i + ((0 : Nat) : Int) = i by omega]; exact ⟨fun h => ⟨trivial, h⟩, fun h => h.2⟩
  | c :: a, b, i => by
    show f i = c ∧ CR f (i + 1) (a ++ b) ↔ (f i = c ∧ CR f (i + 1) a) ∧ CR f (i + ((a.length + 1 : Nat) : Int)) b
    rw [CR_app a b (i + 1), show i + 1 + (a.length : Int) = i + ((a.length + 1 : Nat) : Int) by omega]
    exact ⟨fun h => ⟨⟨h.1, h.2.1⟩, h.2.2⟩, fun h => ⟨h.1.1, h.1.2, h.2⟩⟩
theorem CR_u1 {f : Int → Int} {j v : Int} : ∀ (a : List Int) (i : Int), i + a.length ≤ j → CR f i a → CR (u1 f j v) i a
  | [], _, _, _ => trivial
  | c :: a, i, h, hc => by
    have h' : i + ((a.length + 1 : Nat) : Int) ≤ j := h
    exact ⟨by rw [u1_n (by omega)]; exact hc.1, CR_u1 a (i + 1) (by omega) hc.2⟩
/-- the class's cells of the laws while they are read: units so far, code so far -/
def LSt (o : Int) (cs : List Int) (u : Int) (F A : Fn2) : Prop := F o 1 = u ∧ F o 3 = cs.length ∧ CR (A (o + 1)) 0 cs
/-- the frame of a law's reading -/
def FL (o : Int) (F A F' A' : Fn2) : Prop := (∀ a f, a ≠ o ∨ f = 0 → a ≠ 2 ∨ f = 1 → F' a f = F a f) ∧ (∀ a, a ≠ o + 1 → A' a = A a) ∧ (0 ≤ F o 3 → 0 ≤ F' o 3)
theorem FL.refl {o : Int} {F A : Fn2} : FL o F A F A := ⟨fun _ _ _ _ => rfl, fun _ _ => rfl, id⟩
theorem FL.trans {o : Int} {F A F1 A1 F2 A2 : Fn2} (h : FL o F A F1 A1) (h' : FL o F1 A1 F2 A2) : FL o F A F2 A2 := ⟨fun a f x y => (h'.1 a f x y).trans (h.1 a f x y), fun a x => (h'.2.1 a x).trans (h.2.1 a x), fun x => h'.2.2 (h.2.2 x)⟩
theorem FT2.l {o : Int} {F A F' : Fn2} (ho : lawD o) (h : FT2 F F') : FL o F A F' A := ⟨fun a f _ y => h a f y, fun _ _ => rfl, fun x => by rw [h o 3 (by unfold lawD at ho; omega)]; exact x⟩
theorem TxC.fl {o : Int} {g : Int → Int} {n : Int} {F A F' A' R : Fn2} (ho : lawD o) (h : TxC g n A R) (x : FL o F A F' A') : TxC g n A' R := by
  obtain ⟨t1, t2, t3, t4⟩ := h
  exact ⟨t1, t2, t3, fun i a b => by rw [x.2.1 1 (by unfold lawD at ho; omega)]; exact t4 i a b⟩
theorem LSt.t2 {o : Int} {cs : List Int} {u : Int} {F A F' : Fn2} (ho : lawD o) (h : LSt o cs u F A) (x : FT2 F F') : LSt o cs u F' A := by
  obtain ⟨a, b, c⟩ := h
  unfold lawD at ho
  exact ⟨by rw [x o 1 (by omega)]; exact a, by rw [x o 3 (by omega)]; exact b, c⟩
theorem TkC.same {g : Int → Int} {n p : Int} {F F' : Fn2} (h : TkC g n p F) (e : F' 2 = F 2) : TkC g n p F' := by
  unfold TkC; rw [e]; exact h
theorem c_write {X : Int × (Int → Int)} {k : Nat} {Q : Vv → Fn2 → Fn2 → Fn2 → Prop} {F A R : Fn2} {o c : Int} (hR : RS R) (ho : lawD o) (h3 : 0 ≤ F o 3) (hq : ∀ F' A', (∀ cs u, LSt o cs u F A → cs.length < 300 → LSt o (cs ++ [c]) u F' A') → F' 2 = F 2 → FL o F A F' A' → Q vN F' A' R) : Wp X (k + 1) m_X3_write [vA o, vI c] F A R Q := by
  have hoo := ho
  unfold lawD at hoo
  refine Wp.of [vA o, vI c] rfl rfl rfl (b_X3_write_0 hR (lawD_at ho) ⟨fun h => hq F A (fun cs u hl hc => ?_) rfl FL.refl, fun h => ⟨h3, h, fun A1 hA1 => ⟨by omega, fun F2 hF2 => hq F2 A1 (fun cs u hl hc => ?_) (by rw [hF2, st2_n (by omega)]) ⟨fun a f x y => ?_, fun a x => by rw [hA1, st2_n x], fun _ => by rw [hF2, st2_s, u1_s]; omega⟩⟩⟩⟩)
  · have := hl.2.1; omega
  · obtain ⟨l1, l2, l3⟩ := hl
    refine ⟨by rw [hF2, st2_s, u1_n (by decide)]; exact l1, by rw [hF2, st2_s, u1_s, l2, List.length_append]; rfl, ?_⟩
    rw [hA1, st2_s, CR_app]
    refine ⟨CR_u1 cs 0 (by omega) l3, ?_, trivial⟩
    rw [l2, show (0 : Int) + (cs.length : Int) = cs.length by omega, u1_s]
  · rw [hF2]
    by_cases e : a = o
    · subst e; rw [st2_s, u1_n (by omega)]
    · rw [st2_n e]
theorem c_takeL {X : Int × (Int → Int)} {k : Nat} {Q : Vv → Fn2 → Fn2 → Fn2 → Prop} {F A R : Fn2} {g : Int → Int} {n p K : Int} (ht : TxC g n A R) (hp : 0 ≤ p) (hpn : p ≤ n) (hk : TkC g n p F) (hq1 : ∀ F', tK g n p = K → 0 ≤ tE g n p → tE g n p ≤ n → TkC g n (tE g n p) F' → FT2 F F' → Q (vI 1) F' A R) (hq0 : ∀ F', tK g n p ≠ K → rfs flL g n p 2 = flL (F' 2 8) (F' 2 9) → 0 < F' 2 8 → FT2 F F' → Q (vI 0) F' A R) : Wp X (k + 7) m_X8_take [vA 2, vI K] F A R Q :=
  c_take (k := k) (fl := flL) (rs := pTk flL g n K p fun q => dnL q [] 0) ht hp hpn hk rfl (fun F' p' _ e p0 p1 h1 h2 h3 => by subst e; exact hq1 F' h3 p0 p1 h1 h2) (fun F' e h1 h2 => by
    unfold pTk at e
    by_cases z : tK g n p = K
    · rw [if_pos z] at e
      have := congrArg Prod.fst e
      have z2 : (0 : Int) = F' 2 8 := this
      omega
    · rw [if_neg z] at e
      exact hq0 F' z e h1 h2)
/-- what a part of a law gave: from p, pile s, code cs, units u to p', seg more, units u' -/
def OkP (kd : Nat) (g : Int → Int) (n p : Int) (s : Pl) (cs : List Int) (u p' : Int) (seg : List Int) (u' : Int) : Prop := u < u' ∧ u' ≤ 40 ∧ Exs seg (u' - u) ∧ p < p' ∧ p' ≤ n ∧ (seg.length : Int) ≤ p' - p ∧ (kd ≤ 2 ∨ rank (tK g n p') ≠ 4 → ∀ r, Rn g n false p' s (cs ++ seg) u' r → Rn g n true p s cs u r) ∧ (3 ≤ kd → rank (tK g n p') = 4 → Rn g n true p s cs u (flL 2 (tA g n p')))
def OkX (kd : Nat) (g : Int → Int) (n p : Int) (s : Pl) (cs : List Int) (u p' : Int) (seg : List Int) (u' : Int) : Prop := OkP kd g n p s cs u p' seg u' ∧ (1 ≤ kd → rank (tK g n p') ≠ 6) ∧ (2 ≤ kd → rank (tK g n p') ≠ 5) ∧ (4 ≤ kd → rank (tK g n p') ≠ 2) ∧ (5 ≤ kd → rank (tK g n p') ≠ 1)
def PreX (kd : Nat) (K : Int) (s : Pl) : Prop := (kd ≤ 2 → bgn s → K ≠ 16) ∧ (kd = 1 → topW s ≠ 6) ∧ (kd = 2 → topW s ≠ 5 ∧ topW s ≠ 6) ∧ (kd = 3 → bgn s) ∧ (kd = 4 → topW s ≤ 1 ∨ 7 ≤ topW s) ∧ (kd = 5 → 7 ≤ topW s)
theorem tE_gt {g : Int → Int} {n p : Int} (hpn : p ≤ n) (h : tK g n p ≠ 20) : p < tE g n p ∧ tE g n p ≤ n := by
  have a := tA_b (g := g) hpn
  have e := tE_b (g := g) hpn
  have : tA g n p < n := by
    by_cases z : tA g n p < n
    · exact z
    · exact absurd (by unfold tK; rw [if_neg z]) h
  have := e.2.2 this
  omega
/-- one more operand behind an operator -/
theorem OkP_ext {kd kd2 : Nat} {g : Int → Int} {n p u p1 u1 p2 u2 w : Int} {s : Pl} {cs seg seg2 : List Int} (hkd : kd = 1 ∧ w = 6 ∧ kd2 = 0 ∨ kd = 2 ∧ w = 5 ∧ kd2 = 1 ∨ kd = 4 ∧ w = 2 ∧ kd2 = 3 ∨ kd = 5 ∧ w = 1 ∧ kd2 = 4) (h : OkP kd g n p s cs u p1 seg u1) (hw : rank (tK g n p1) = w) (hs : 6 < topW s ∨ topW s < w) (h2 : OkX kd2 g n (tE g n p1) ((w, -tK g n p1) :: s) (cs ++ seg) u1 p2 seg2 u2) : OkP kd g n p s cs u p2 (seg ++ seg2 ++ [-tK g n p1]) u2 := by
  obtain ⟨a1, a2, a3, a4, a5, a6, a7, a8⟩ := h
  obtain ⟨⟨b1, b2, b3, b4, b5, b6, b7, b8⟩, c1, c2, c3, c4⟩ := h2
  have rb := rank_b (tK g n p2)
  have n20 : tK g n p1 ≠ 20 := fun z => by rw [z] at hw; have : rank 20 = 0 := by decide; omega
  have eg := tE_gt a5 n20
  have op : -tK g n p1 = -14 ∨ -tK g n p1 = -15 ∨ -tK g n p1 = -42 ∨ -tK g n p1 = -43 ∨ -tK g n p1 = -45 ∨ -tK g n p1 = -47 ∨ -tK g n p1 = -60 ∨ -tK g n p1 = -61 ∨ -tK g n p1 = -62 := by
    unfold rank at hw
    split at hw
    · omega
    · split at hw
      · omega
      · split at hw
        · omega
        · split at hw
          · omega
          · split at hw <;> omega
  have ex := Exs.two a3 b3 op
  have push : ∀ r, Rn g n true (tE g n p1) ((w, -tK g n p1) :: s) (cs ++ seg) u1 r → Rn g n true p s cs u r := fun r hr => a7 (by omega) r (Rn_push (by omega) (by rw [hw]; exact hs) (fun z => by omega) (by rw [hw]; exact hr))
  refine ⟨by omega, b2, ex.mono (by omega), by omega, b5, ?_, fun hk r hr => push r (b7 (by omega) r ?_), fun hk h4 => push _ (b8 (by omega) h4)⟩
  · rw [List.length_append, List.length_append]
    show (((seg.length + seg2.length) + 1 : Nat) : Int) ≤ _
    omega
  · refine Rn_pop (by omega) (by omega) (by omega) ?_
    rw [List.append_assoc, ← List.append_assoc seg]
    exact hr
theorem OkP_cmp {g : Int → Int} {n p u p1 u1 p2 u2 : Int} {s : Pl} {cs seg seg2 : List Int} (h : OkP 2 g n p s cs u p1 seg u1) (hw : rank (tK g n p1) = 4) (hs : bgn s) (hc : cmpd s = false) (h2 : OkX 2 g n (tE g n p1) ((4, -tK g n p1) :: s) (cs ++ seg) u1 p2 seg2 u2) : OkX 3 g n p s cs u p2 (seg ++ seg2 ++ [-tK g n p1]) u2 := by
  obtain ⟨a1, a2, a3, a4, a5, a6, a7, a8⟩ := h
  obtain ⟨⟨b1, b2, b3, b4, b5, b6, b7, b8⟩, c1, c2, c3, c4⟩ := h2
  have rb := rank_b (tK g n p2)
  have n20 : tK g n p1 ≠ 20 := fun z => by rw [z] at hw; have : rank 20 = 0 := by decide; omega
  have eg := tE_gt a5 n20
  have op : -tK g n p1 = -14 ∨ -tK g n p1 = -15 ∨ -tK g n p1 = -42 ∨ -tK g n p1 = -43 ∨ -tK g n p1 = -45 ∨ -tK g n p1 = -47 ∨ -tK g n p1 = -60 ∨ -tK g n p1 = -61 ∨ -tK g n p1 = -62 := by
    unfold rank at hw
    split at hw
    · omega
    · split at hw
      · omega
      · split at hw
        · omega
        · split at hw
          · omega
          · split at hw <;> omega
  have ex := Exs.two a3 b3 op
  have push : ∀ r, Rn g n true (tE g n p1) ((4, -tK g n p1) :: s) (cs ++ seg) u1 r → Rn g n true p s cs u r := fun r hr => a7 (Or.inl (by decide)) r (Rn_push (by omega) (by omega) (fun _ => hc) (by rw [hw]; exact hr))
  refine ⟨⟨by omega, b2, ex.mono (by omega), by omega, b5, ?_, fun hk r hr => push r (b7 (Or.inl (by decide)) r ?_), fun hk h4 => push _ (b7 (Or.inl (by decide)) _ (Rn_cmp h4 rfl))⟩, fun _ => c1 (by decide), fun _ => c2 (by decide), fun z => absurd z (by decide), fun z => absurd z (by decide)⟩
  · rw [List.length_append, List.length_append]
    show (((seg.length + seg2.length) + 1 : Nat) : Int) ≤ _
    omega
  · have r6 := c1 (by decide)
    have r5 := c2 (by decide)
    have h4 : rank (tK g n p2) ≠ 4 := by omega
    refine Rn_pop (by omega) (by omega) (Or.inl h4) ?_
    rw [List.append_assoc, ← List.append_assoc seg]
    exact hr
def RdX (kd mth d : Nat) (t : Int) : Prop := ∀ (X : Int × (Int → Int)) (K : Nat) (Q : Vv → Fn2 → Fn2 → Fn2 → Prop) (F A R : Fn2) (g : Int → Int) (n p o u : Int) (cs : List Int) (s : Pl), d ≤ K → TxC g n A R → n ≤ 300 → 0 ≤ p → p ≤ n → TkC g n p F → lawD o → LSt o cs u F A → 0 ≤ u → u ≤ 40 → (cs.length : Int) ≤ p → wth s = t → PreX kd (tK g n p) s →
  (∀ F' A' p' seg u', OkX kd g n p s cs u p' seg u' → TkC g n p' F' → LSt o (cs ++ seg) u' F' A' → FL o F A F' A' → Q (vI 1) F' A' R) →
  (∀ F' A', Rn g n true p s cs u (flL (F' 2 8) (F' 2 9)) → 0 < F' 2 8 → FL o F A F' A' → Q (vI 0) F' A' R) → Wp X K mth [vA o, vA 2, vI t] F A R Q
theorem tV_0 {g : Int → Int} {n p : Int} (h : tK g n p = 22) : 0 ≤ tV g n p := by
  unfold tV
  refine (nmB_b (b := 10) (z := 48) (by decide) _ ?_).1
  unfold tK at h
  by_cases h1 : tA g n p < n
  · rw [if_pos h1] at h
    by_cases h2 : bL (g (tA g n p)) = true
    · rw [if_pos h2] at h
      have lb := look_b WT 0 (tW g n p)
      have l : WT.length = 20 := rfl
      split at h <;> omega
    · rw [if_neg h2] at h
      by_cases h3 : bD (g (tA g n p)) = true
      · have eE : tE g n p = adw g n bD (tA g n p) := by unfold tE; rw [if_pos h1, if_neg h2, if_pos h3]
        exact fwd_all (g := g) (P := fun c => 48 ≤ c ∧ c < 48 + 10) _ (fun i a b => by have := bD_t.1 (adw_in (g := g) (n := n) (P := bD) a (by omega)); omega)
      · rw [if_neg h3] at h; split at h <;> omega
  · rw [if_neg h1] at h; omega
theorem c_unit {t : Int} {d : Nat} (ht0 : 0 ≤ t) (ht7 : t ≤ 7) (hd : 8 ≤ d) (hE : t ≤ 6 → RdX 5 m_X3_readEither d (t + 1)) : RdX 0 m_X3_readUnit (d + 1) t := by
  intro X K Q F A R g n p o u cs s hK hT hn hp hpn hk ho hL hu hu4 hc hw hpre hq1 hq0
  obtain ⟨j, rfl⟩ : ∃ j, K = j + 9 := ⟨K - 9, by omega⟩
  have ha := lawD_at ho
  have hR := hT.1
  have k0 := tK_0 (g := g) (n := n) (p := p)
  have n16 := hpre.1 (by decide)
  have hoo := ho
  unfold lawD at hoo
  have rf : noU (tK g n p) s u → ∀ x4 x5, Wp X (j + 8) m_X8_refuse [vA 2, vI 2] F A R (fun v F A R => G X (j + 8) m_X3_readUnit Q 84 [vA o, vA 2, vI t, vI (tK g n p), vI x4, vI x5] [v] F A R) := fun h x4 x5 => c_refuse (fl := flL) (rs := rfs flL g n p 2) (k := j + 7) hk (by decide) rfl (fun F' e1 e2 e3 => b_X3_readUnit_84 ha ⟨by decide, by decide, hq0 F' A (by rw [← e1]; exact Rn_no h) e2 (e3.l ho)⟩)
  have g85 : ∀ x4 x5, ¬ noU (tK g n p) s u → u < 40 → (x4 = 1 ∧ isU (tK g n p) ∨ x4 = 0 ∧ ¬ isU (tK g n p)) → (x5 = 1 ∧ tK g n p = 40 ∧ t ≤ 6 ∨ x5 = 0 ∧ tK g n p ≠ 40) → G X (j + 8) m_X3_readUnit Q 85 [vA o, vA 2, vI t, vI (tK g n p), vI x4, vI x5] [] F A R := by
    intro x4 x5 hno hlt h4 h5
    have eg : p < tE g n p ∧ tE g n p ≤ n := tE_gt hpn (fun z => hno (Or.inl ⟨fun y => by omega, Or.inl ⟨by omega, by omega, by omega⟩⟩))
    refine b_X3_readUnit_85 ha ⟨by rw [hL.1]; omega, fun F1 hF1 => ?_⟩
    rw [hL.1] at hF1
    have x1 : ∀ a f, a ≠ o ∨ f ≠ 1 → F1 a f = F a f := fun a f h => by
      rw [hF1]
      by_cases e : a = o
      · subst e; rw [st2_s, u1_n (by omega)]
      · rw [st2_n e]
    have e2 : F1 2 = F 2 := funext fun f => x1 2 f (by omega)
    have k1 := hk.same e2
    have L1 : LSt o cs (u + 1) F1 A := ⟨by rw [hF1, st2_s, u1_s], by rw [x1 o 3 (by omega)]; exact hL.2.1, hL.2.2⟩
    have f1 : FL o F A F1 A := ⟨fun a f x y => x1 a f (by omega), fun _ _ => rfl, fun x => by rw [x1 o 3 (by omega)]; exact x⟩
    have wr : ∀ c, x5 = 0 → c = (if isU (tK g n p) then -tK g n p else tV g n p) → tK g n p ≠ 40 → Wp X (j + 8) m_X3_write [vA o, vI c] F1 A R (fun v F A R => G X (j + 8) m_X3_readUnit Q 118 [vA o, vA 2, vI t, vI (tK g n p), vI x4, vI x5] [] F A R) := by
      intro c hx5 hcc h40
      refine c_write (k := j + 7) hR ho (by rw [L1.2.1]; omega) (fun F2 A2 g1 g2 g3 => b_X3_readUnit_118 ha ?_)
      have L2 := g1 cs (u + 1) L1 (by omega)
      refine (k1.same g2).next (k := j + 2) (hT.fl ho g3) hp hpn (fun F3 k3 f3 _ p0 p1 => b_X3_readUnit_122 ha ⟨fun _ => ?_, fun h => absurd hx5 h⟩)
      have hex : Exs [c] 1 := by
        refine Exs.u ?_
        rw [hcc]
        by_cases z : isU (tK g n p)
        · rw [if_pos z]; omega
        · rw [if_neg z]
          refine Or.inl (tV_0 ?_)
          by_cases z2 : tK g n p = 22
          · exact z2
          · exact absurd (Or.inl ⟨fun y => n16 y.1 y.2, Or.inl ⟨z, z2, h40⟩⟩) hno
      refine hq1 F3 A2 (tE g n p) [c] (u + 1) ⟨⟨by omega, by omega, hex.mono (by omega), eg.1, eg.2, by show ((1 : Nat) : Int) ≤ _; omega, fun _ r hr => ?_, fun z => absurd z (by decide)⟩, fun z => absurd z (by decide), fun z => absurd z (by decide), fun z => absurd z (by decide), fun z => absurd z (by decide)⟩ k3 (L2.t2 ho f3) ((f1.trans g3).trans (f3.l ho))
      rw [hcc] at hr
      exact Rn_u hno (fun y => n16 y.1 y.2) h40 hr
    refine ⟨fun h5n => ?_, fun h50 => ⟨fun h40 => wr _ h50 ?_ (by omega), fun h41 => ⟨by omega, wr _ h50 ?_ (by omega)⟩⟩⟩
    · have h40 : tK g n p = 40 := by omega
      have t6 : t ≤ 6 := by omega
      refine b_X3_readUnit_118 ha (k1.next (k := j + 2) hT hp hpn (fun F3 k3 f3 _ p0 p1 => b_X3_readUnit_122 ha ⟨fun h => absurd h h5n, fun _ => ⟨by omega, ?_⟩⟩))
      have f13 := f1.trans (f3.l (A := A) ho)
      refine hE t6 X (j + 8) _ F3 A R g n (tE g n p) o (u + 1) cs ((7, 0) :: s) (by omega) hT hn p0 p1 k3 ho (L1.t2 ho f3) (by omega) (by omega) (by omega) ?_ ⟨fun z => absurd z (by decide), fun z => absurd z (by decide), fun z => absurd z (by decide), fun z => absurd z (by decide), fun z => absurd z (by decide), fun _ => by show (7 : Int) ≤ 7; decide⟩ (fun F4 A4 p4 seg u4 ok4 k4 L4 f4 => b_X3_readUnit_135 ha ⟨fun h => absurd h (by decide), fun _ => ?_⟩) (fun F4 A4 e1 e2 f4 => b_X3_readUnit_135 ha ⟨fun _ => hq0 F4 A4 (Rn_br hno h40 e1) e2 (f13.trans f4), fun h => absurd rfl h⟩)
      · show (if (7 : Int) = 3 ∨ (7 : Int) = 7 then 1 else 0) + wth s = t + 1
        rw [if_pos (Or.inr rfl), hw]; omega
      · obtain ⟨⟨b1, b2, b3, b4, b5, b6, b7, b8⟩, c1, c2, c3, c4⟩ := ok4
        have rb := rank_b (tK g n p4)
        have r1 := c1 (by decide)
        have r2 := c2 (by decide)
        have r3 := c3 (by decide)
        have r4 := c4 (by decide)
        refine c_takeL (k := j + 1) (hT.fl ho f4) (by omega) b5 k4 (fun F5 h41 q0 q1 k5 f5 => b_X3_readUnit_144 ha ⟨fun h => absurd h (by decide), fun _ => ?_⟩) (fun F5 h41 e1 e2 f5 => b_X3_readUnit_144 ha ⟨fun _ => ?_, fun h => absurd rfl h⟩)
        · have r0 : rank (tK g n p4) = 0 := by rw [h41]; decide
          have eg4 := tE_gt b5 (show tK g n p4 ≠ 20 by omega)
          refine hq1 F5 A4 (tE g n p4) seg u4 ⟨⟨by omega, b2, b3.mono (by omega), by omega, eg4.2, by omega, fun _ r hr => Rn_br hno h40 (b7 (by omega) r (Rn_cl r0 h41 hr)), fun z => absurd z (by decide)⟩, fun z => absurd z (by decide), fun z => absurd z (by decide), fun z => absurd z (by decide), fun z => absurd z (by decide)⟩ k5 (L4.t2 ho f5) ((f13.trans f4).trans (f5.l ho))
        · refine hq0 F5 A4 (Rn_br hno h40 ?_) e2 ((f13.trans f4).trans (f5.l ho))
          by_cases h4 : rank (tK g n p4) = 4
          · have := b8 (by decide) h4
            rw [← e1]
            unfold rfs
            rw [if_neg (fun z => by rw [z] at h4; exact absurd h4 (by decide))]
            exact this
          · rw [← e1]
            exact b7 (Or.inr h4) _ (Rn_ncl (by omega) h41)
    · rw [if_neg (by omega), e2]
      refine hk.2.2.2.2.1 ?_
      by_cases z2 : tK g n p = 22
      · exact z2
      · exact absurd (Or.inl ⟨fun y => n16 y.1 y.2, Or.inl ⟨by omega, z2, by omega⟩⟩) hno
    · rw [if_pos (by omega)]
  have dec : ∀ x4 x5, (x4 = 1 ∧ isU (tK g n p) ∨ x4 = 0 ∧ ¬ isU (tK g n p)) → (x5 = 1 ∧ tK g n p = 40 ∧ t ≤ 6 ∨ x5 = 0 ∧ tK g n p ≠ 40) → u < 40 → (isU (tK g n p) ∨ tK g n p = 22 ∨ tK g n p = 40) → G X (j + 8) m_X3_readUnit Q 85 [vA o, vA 2, vI t, vI (tK g n p), vI x4, vI x5] [] F A R := fun x4 x5 h4 h5 hlt hh => g85 x4 x5 (fun z => by
    rcases z with ⟨_, z⟩ | ⟨z, z'⟩
    · omega
    · have := n16
      rcases z with z | z
      · exact n16 z.1 z.2
      · omega) hlt h4 h5
  have full : ¬ u < 40 → noU (tK g n p) s u := fun h => Or.inl ⟨fun y => n16 y.1 y.2, Or.inr (by omega)⟩
  have g28 : isU (tK g n p) → G X (j + 8) m_X3_readUnit Q 28 [vA o, vA 2, vI t, vI (tK g n p), vN, vN] [] F A R := fun hU => by
    refine b_X3_readUnit_28 ha ?_
    rw [hL.1]
    exact ⟨fun _ => ⟨fun h => rf (full h) 1 0, fun h => dec 1 0 (Or.inl ⟨rfl, hU⟩) (Or.inr ⟨rfl, by omega⟩) h (Or.inl hU)⟩, fun h => by omega⟩
  refine Wp.of (k := j + 8) [vA o, vA 2, vI t, vN, vN, vN] rfl rfl rfl (b_X3_readUnit_0 ha fun g1 hg1 => ?_)
  rw [hk.2.2.2.1] at hg1
  subst hg1
  rw [hL.1]
  refine ⟨fun h => g28 (by omega), fun n3 => ⟨fun h => g28 (by omega), fun n17 => ⟨fun h => g28 (by omega), fun n18 => ⟨fun n19 => ⟨fun n40 => ⟨fun h => rf (full h) 0 0, fun h => ⟨fun e22 => dec 0 0 (Or.inr ⟨rfl, by omega⟩) (Or.inr ⟨rfl, n40⟩) h (Or.inr (Or.inl e22)), fun n22 => rf (Or.inl ⟨fun y => n16 y.1 y.2, Or.inl ⟨by omega, n22, n40⟩⟩) 0 0⟩⟩, fun e40 => ⟨fun t6 => ⟨fun h => rf (full h) 0 0, fun h => ⟨fun e22 => by omega, fun n22 => rf (Or.inr ⟨Or.inr e40, by omega⟩) 0 0⟩⟩, fun t6 => ⟨fun h => rf (full h) 0 1, fun h => dec 0 1 (Or.inr ⟨rfl, by omega⟩) (Or.inl ⟨rfl, e40, by omega⟩) h (Or.inr (Or.inr e40))⟩⟩⟩, fun e19 => g28 (by omega)⟩⟩⟩⟩
