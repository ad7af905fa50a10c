/-! THE CLASS READS A LAW -/
theorem CR_app {f : Int → Int} : ∀ (a b : List Int) (i : Int), CR f i (a ++ b) ↔ CR f i a ∧ CR f (i + a.length) b
  | [], b, i => by
    show CR f i b ↔ True ∧ CR f (i + (0 : Nat)) b
    rw [show i + ((0 : Nat) : Int) = i by omega]; exact ⟨fun h => ⟨trivial, h⟩, fun h => h.2⟩
  | c :: a, b, i => by
    show f i = c ∧ CR f (i + 1) (a ++ b) ↔ (f i = c ∧ CR f (i + 1) a) ∧ CR f (i + ((a.length + 1 : Nat) : Int)) b
    rw [CR_app a b (i + 1), show i + 1 + (a.length : Int) = i + ((a.length + 1 : Nat) : Int) by omega]
    exact ⟨fun h => ⟨⟨h.1, h.2.1⟩, h.2.2⟩, fun h => ⟨h.1.1, h.1.2, h.2⟩⟩
theorem CR_u1 {f : Int → Int} {j v : Int} : ∀ (a : List Int) (i : Int), i + a.length ≤ j → CR f i a → CR (u1 f j v) i a
  | [], _, _, _ => trivial
  | c :: a, i, h, hc => by
    have h' : i + ((a.length + 1 : Nat) : Int) ≤ j := h
    exact ⟨by rw [u1_n (by omega)]; exact hc.1, CR_u1 a (i + 1) (by omega) hc.2⟩
/-- the class's cells of the laws while they are read: units so far, code so far -/
def LSt (o : Int) (cs : List Int) (u : Int) (F A : Fn2) : Prop := F o 1 = u ∧ F o 3 = cs.length ∧ CR (A (o + 1)) 0 cs
/-- the frame of a law's reading -/
def FL (o : Int) (F A F' A' : Fn2) : Prop := (∀ a f, a ≠ o ∨ f = 0 → a ≠ 2 ∨ f = 1 → F' a f = F a f) ∧ (∀ a, a ≠ o + 1 → A' a = A a) ∧ (0 ≤ F o 3 → 0 ≤ F' o 3)
theorem FL.refl {o : Int} {F A : Fn2} : FL o F A F A := ⟨fun _ _ _ _ => rfl, fun _ _ => rfl, id⟩
theorem FL.trans {o : Int} {F A F1 A1 F2 A2 : Fn2} (h : FL o F A F1 A1) (h' : FL o F1 A1 F2 A2) : FL o F A F2 A2 := ⟨fun a f x y => (h'.1 a f x y).trans (h.1 a f x y), fun a x => (h'.2.1 a x).trans (h.2.1 a x), fun x => h'.2.2 (h.2.2 x)⟩
theorem FT2.l {o : Int} {F A F' : Fn2} (ho : lawD o) (h : FT2 F F') : FL o F A F' A := ⟨fun a f _ y => h a f y, fun _ _ => rfl, fun x => by rw [h o 3 (by unfold lawD at ho; omega)]; exact x⟩
theorem TxC.fl {o : Int} {g : Int → Int} {n : Int} {F A F' A' R : Fn2} (ho : lawD o) (h : TxC g n A R) (x : FL o F A F' A') : TxC g n A' R := by
  obtain ⟨t1, t2, t3, t4⟩ := h
  exact ⟨t1, t2, t3, fun i a b => by rw [x.2.1 1 (by unfold lawD at ho; omega)]; exact t4 i a b⟩
theorem LSt.t2 {o : Int} {cs : List Int} {u : Int} {F A F' : Fn2} (ho : lawD o) (h : LSt o cs u F A) (x : FT2 F F') : LSt o cs u F' A := by
  obtain ⟨a, b, c⟩ := h
  unfold lawD at ho
  exact ⟨by rw [x o 1 (by omega)]; exact a, by rw [x o 3 (by omega)]; exact b, c⟩
theorem TkC.same {g : Int → Int} {n p : Int} {F F' : Fn2} (h : TkC g n p F) (e : F' 2 = F 2) : TkC g n p F' := by
  unfold TkC; rw [e]; exact h
theorem c_write {X : Int × (Int → Int)} {k : Nat} {Q : Vv → Fn2 → Fn2 → Fn2 → Prop} {F A R : Fn2} {o c : Int} (hR : RS R) (ho : lawD o) (h3 : 0 ≤ F o 3) (hq : ∀ F' A', (∀ cs u, LSt o cs u F A → cs.length < 300 → LSt o (cs ++ [c]) u F' A') → F' 2 = F 2 → FL o F A F' A' → Q vN F' A' R) : Wp X (k + 1) m_X3_write [vA o, vI c] F A R Q := by
  have hoo := ho
  unfold lawD at hoo
  refine Wp.of [vA o, vI c] rfl rfl rfl (b_X3_write_0 hR (lawD_at ho) ⟨fun h => hq F A (fun cs u hl hc => ?_) rfl FL.refl, fun h => ⟨h3, h, fun A1 hA1 => ⟨by omega, fun F2 hF2 => hq F2 A1 (fun cs u hl hc => ?_) (by rw [hF2, st2_n (by omega)]) ⟨fun a f x y => ?_, fun a x => by rw [hA1, st2_n x], fun _ => by rw [hF2, st2_s, u1_s]; omega⟩⟩⟩⟩)
  · have := hl.2.1; omega
  · obtain ⟨l1, l2, l3⟩ := hl
    refine ⟨by rw [hF2, st2_s, u1_n (by decide)]; exact l1, by rw [hF2, st2_s, u1_s, l2, List.length_append]; rfl, ?_⟩
    rw [hA1, st2_s, CR_app]
    refine ⟨CR_u1 cs 0 (by omega) l3, ?_, trivial⟩
    rw [l2, show (0 : Int) + (cs.length : Int) = cs.length by omega, u1_s]
  · rw [hF2]
    by_cases e : a = o
    · subst e; rw [st2_s, u1_n (by omega)]
    · rw [st2_n e]
theorem c_takeL {X : Int × (Int → Int)} {k : Nat} {Q : Vv → Fn2 → Fn2 → Fn2 → Prop} {F A R : Fn2} {g : Int → Int} {n p K : Int} (ht : TxC g n A R) (hp : 0 ≤ p) (hpn : p ≤ n) (hk : TkC g n p F) (hq1 : ∀ F', tK g n p = K → 0 ≤ tE g n p → tE g n p ≤ n → TkC g n (tE g n p) F' → FT2 F F' → Q (vI 1) F' A R) (hq0 : ∀ F', tK g n p ≠ K → rfs flL g n p 2 = flL (F' 2 7) (F' 2 8) → 0 < F' 2 7 → FT2 F F' → Q (vI 0) F' A R) : Wp X (k + 7) m_X8_take [vA 2, vI K] F A R Q :=
  c_take (k := k) (fl := flL) (rs := pTk flL g n K p fun q => dnL q [] 0) ht hp hpn hk rfl (fun F' p' _ e p0 p1 h1 h2 h3 => by subst e; exact hq1 F' h3 p0 p1 h1 h2) (fun F' e h1 h2 => by
    unfold pTk at e
    by_cases z : tK g n p = K
    · rw [if_pos z] at e
      have := congrArg Prod.fst e
      have z2 : (0 : Int) = F' 2 7 := this
      omega
    · rw [if_neg z] at e
      exact hq0 F' z e h1 h2)
/-- what a part of a law gave: from p, pile s, code cs, units u to p', seg more, units u' -/
def OkP (kd : Nat) (g : Int → Int) (n p : Int) (s : Pl) (cs : List Int) (u p' : Int) (seg : List Int) (u' : Int) : Prop := u < u' ∧ u' ≤ 40 ∧ Exs seg (u' - u) ∧ p < p' ∧ p' ≤ n ∧ (seg.length : Int) ≤ p' - p ∧ (kd ≤ 2 ∨ rank (tK g n p') ≠ 4 → ∀ r, Rn g n false p' s (cs ++ seg) u' r → Rn g n true p s cs u r) ∧ (3 ≤ kd → rank (tK g n p') = 4 → Rn g n true p s cs u (flL 2 (tA g n p')))
def OkX (kd : Nat) (g : Int → Int) (n p : Int) (s : Pl) (cs : List Int) (u p' : Int) (seg : List Int) (u' : Int) : Prop := OkP kd g n p s cs u p' seg u' ∧ (1 ≤ kd → rank (tK g n p') ≠ 6) ∧ (2 ≤ kd → rank (tK g n p') ≠ 5) ∧ (4 ≤ kd → rank (tK g n p') ≠ 2) ∧ (5 ≤ kd → rank (tK g n p') ≠ 1)
def PreX (kd : Nat) (K : Int) (s : Pl) : Prop := (kd ≤ 2 → bgn s → K ≠ 16) ∧ (kd = 1 → topW s ≠ 6) ∧ (kd = 2 → topW s ≠ 5 ∧ topW s ≠ 6) ∧ (kd = 3 → bgn s) ∧ (kd = 4 → topW s ≤ 1 ∨ 7 ≤ topW s) ∧ (kd = 5 → 7 ≤ topW s)
theorem tE_gt {g : Int → Int} {n p : Int} (hpn : p ≤ n) (h : tK g n p ≠ 20) : p < tE g n p ∧ tE g n p ≤ n := by
  have a := tA_b (g := g) hpn
  have e := tE_b (g := g) hpn
  have : tA g n p < n := by
    by_cases z : tA g n p < n
    · exact z
    · exact absurd (by unfold tK; rw [if_neg z]) h
  have := e.2.2 this
  omega
theorem rank_op {K : Int} : (K = 42 ∨ K = 47 → rank K = 6) ∧ (K = 43 ∨ K = 45 → rank K = 5) ∧ (K = 15 → rank K = 2) ∧ (K = 14 → rank K = 1) ∧ (K = 60 ∨ K = 62 ∨ K = 61 → rank K = 4) := by
  refine ⟨fun h => ?_, fun h => ?_, fun h => ?_, fun h => ?_, fun h => ?_⟩
  · unfold rank; rw [if_neg (by omega), if_neg (by omega), if_neg (by omega), if_neg (by omega), if_pos (by omega)]
  · unfold rank; rw [if_neg (by omega), if_neg (by omega), if_neg (by omega), if_pos (by omega)]
  · unfold rank; rw [if_pos h]
  · unfold rank; rw [if_neg (by omega), if_pos h]
  · unfold rank; rw [if_neg (by omega), if_neg (by omega), if_pos (by omega)]
theorem rank_no {K : Int} : (¬ (K = 42 ∨ K = 47) → rank K ≠ 6) ∧ (¬ (K = 43 ∨ K = 45) → rank K ≠ 5) ∧ (¬ K = 15 → rank K ≠ 2) ∧ (¬ K = 14 → rank K ≠ 1) ∧ (¬ (K = 60 ∨ K = 62 ∨ K = 61) → rank K ≠ 4) := by
  unfold rank
  by_cases h15 : K = 15
  · rw [if_pos h15]; omega
  · rw [if_neg h15]
    by_cases h14 : K = 14
    · rw [if_pos h14]; omega
    · rw [if_neg h14]
      by_cases h4 : K = 60 ∨ K = 62 ∨ K = 61
      · rw [if_pos h4]; omega
      · rw [if_neg h4]
        by_cases h5 : K = 43 ∨ K = 45
        · rw [if_pos h5]; omega
        · rw [if_neg h5]
          by_cases h6 : K = 42 ∨ K = 47
          · rw [if_pos h6]; omega
          · rw [if_neg h6]; omega
theorem rank_cs {K : Int} (h : 0 < rank K) : -K = -14 ∨ -K = -15 ∨ -K = -42 ∨ -K = -43 ∨ -K = -45 ∨ -K = -47 ∨ -K = -60 ∨ -K = -61 ∨ -K = -62 := by
  have b := rank_b K
  obtain ⟨r6, r5, r2, r1, r4⟩ := rank_no (K := K)
  by_cases h15 : K = 15
  · omega
  · by_cases h14 : K = 14
    · omega
    · have e2 := r2 h15
      have e1 := r1 h14
      by_cases h4 : K = 60 ∨ K = 62 ∨ K = 61
      · omega
      · have e4 := r4 h4
        by_cases h5 : K = 43 ∨ K = 45
        · omega
        · have e5 := r5 h5
          by_cases h6 : K = 42 ∨ K = 47
          · omega
          · have e6 := r6 h6
            omega
/-- one more operand behind an operator -/
theorem app3 {a b c d : List Int} : a ++ b ++ c ++ d = a ++ (b ++ c ++ d) := by simp only [List.append_assoc]
theorem OkP_ext {kd kd2 : Nat} {g : Int → Int} {n p u p1 u1 p2 u2 w : Int} {s : Pl} {cs seg seg2 : List Int} (hkd : kd = 1 ∧ w = 6 ∧ kd2 = 0 ∨ kd = 2 ∧ w = 5 ∧ kd2 = 1 ∨ kd = 4 ∧ w = 2 ∧ kd2 = 3 ∨ kd = 5 ∧ w = 1 ∧ kd2 = 4) (h : OkP kd g n p s cs u p1 seg u1) (hw : rank (tK g n p1) = w) (hs : 6 < topW s ∨ topW s < w) (h2 : OkX kd2 g n (tE g n p1) ((w, -tK g n p1) :: s) (cs ++ seg) u1 p2 seg2 u2) : OkP kd g n p s cs u p2 (seg ++ seg2 ++ [-tK g n p1]) u2 := by
  obtain ⟨a1, a2, a3, a4, a5, a6, a7, a8⟩ := h
  obtain ⟨⟨b1, b2, b3, b4, b5, b6, b7, b8⟩, c1, c2, c3, c4⟩ := h2
  have w0 : 0 < w ∧ w ≤ 6 ∧ w ≠ 4 := by clear a7 a8 b7 b8 c1 c2 c3 c4; omega
  have k1 : kd ≤ 2 ∨ w ≠ 4 := Or.inr w0.2.2
  have k2 : kd ≤ 2 ∨ rank (tK g n p2) ≠ 4 → kd2 ≤ 2 ∨ rank (tK g n p2) ≠ 4 := by clear a7 a8 b7 b8 c1 c2 c3 c4; omega
  have k3 : 3 ≤ kd → 3 ≤ kd2 := by clear a7 a8 b7 b8 c1 c2 c3 c4; omega
  have k4 : (kd ≤ 2 ∨ rank (tK g n p2) ≠ 4) → rank (tK g n p2) ≤ w ∧ (rank (tK g n p2) ≠ 4 ∨ w = 5 ∨ w = 6) := by
    have rb := rank_b (tK g n p2)
    clear a7 a8 b7 b8
    intro z
    rcases hkd with ⟨e1, e2, e3⟩ | ⟨e1, e2, e3⟩ | ⟨e1, e2, e3⟩ | ⟨e1, e2, e3⟩
    · omega
    · have := c1 (by omega); omega
    · have := c1 (by omega); have := c2 (by omega); omega
    · have := c1 (by omega); have := c2 (by omega); have := c3 (by omega); omega
  clear hkd c1 c2 c3 c4
  have n20 : tK g n p1 ≠ 20 := fun z => by
    rw [z] at hw
    have : rank 20 = 0 := (by decide)
    omega
  have eg := tE_gt a5 n20
  have ex := Exs.two a3 b3 (rank_cs (by rw [hw]; exact w0.1))
  have push : ∀ r, Rn g n true (tE g n p1) ((w, -tK g n p1) :: s) (cs ++ seg) u1 r → Rn g n true p s cs u r := fun r hr => a7 (by rw [hw]; exact k1) r (Rn_push (by rw [hw]; exact w0.1) (by rw [hw]; exact hs) (fun z => absurd (hw.symm.trans z) w0.2.2) (by rw [hw]; exact hr))
  have ll : ((seg ++ seg2 ++ [-tK g n p1]).length : Int) = seg.length + seg2.length + 1 := by
    rw [List.length_append, List.length_append]; rfl
  refine ⟨Int.lt_trans a1 b1, b2, ex.mono (by clear a7 a8 b7 b8 push; omega), by clear a7 a8 b7 b8 push; omega, b5, by clear a7 a8 b7 b8 push; omega, fun hk r hr => push r (b7 (k2 hk) r ?_), fun hk h4 => push _ (b8 (k3 hk) h4)⟩
  have q := k4 hk
  refine Rn_pop w0.2.1 q.1 q.2 ?_
  rw [app3]; exact hr
theorem OkP_cmp {g : Int → Int} {n p u p1 u1 p2 u2 : Int} {s : Pl} {cs seg seg2 : List Int} (h : OkP 2 g n p s cs u p1 seg u1) (hw : rank (tK g n p1) = 4) (hs : bgn s) (hc : cmpd s = false) (h2 : OkX 2 g n (tE g n p1) ((4, -tK g n p1) :: s) (cs ++ seg) u1 p2 seg2 u2) : OkX 3 g n p s cs u p2 (seg ++ seg2 ++ [-tK g n p1]) u2 := by
  obtain ⟨a1, a2, a3, a4, a5, a6, a7, a8⟩ := h
  obtain ⟨⟨b1, b2, b3, b4, b5, b6, b7, b8⟩, c1, c2, c3, c4⟩ := h2
  have rb := rank_b (tK g n p2)
  have n20 : tK g n p1 ≠ 20 := fun z => by
    rw [z] at hw
    have : rank 20 = 0 := (by decide)
    omega
  have eg := tE_gt a5 n20
  have ex := Exs.two a3 b3 (rank_cs (by rw [hw]; decide))
  have hs' : 6 < topW s ∨ topW s < 4 := by unfold bgn at hs; omega
  have push : ∀ r, Rn g n true (tE g n p1) ((4, -tK g n p1) :: s) (cs ++ seg) u1 r → Rn g n true p s cs u r := fun r hr => a7 (Or.inl (by decide)) r (Rn_push (by rw [hw]; decide) (by rw [hw]; exact hs') (fun _ => hc) (by rw [hw]; exact hr))
  have ll : ((seg ++ seg2 ++ [-tK g n p1]).length : Int) = seg.length + seg2.length + 1 := by
    rw [List.length_append, List.length_append]; rfl
  have r6 := c1 (by decide)
  have r5 := c2 (by decide)
  clear c1 c2 c3 c4
  refine ⟨⟨Int.lt_trans a1 b1, b2, ex.mono (by clear a7 a8 b7 b8 push; omega), by clear a7 a8 b7 b8 push; omega, b5, by clear a7 a8 b7 b8 push; omega, fun hk r hr => push r (b7 (Or.inl (by decide)) r ?_), fun hk h4 => push _ (b7 (Or.inl (by decide)) _ (Rn_cmp h4 rfl))⟩, fun _ => r6, fun _ => r5, fun z => absurd z (by decide), fun z => absurd z (by decide)⟩
  have h4 : rank (tK g n p2) ≠ 4 := by clear a7 a8 b7 b8 push; omega
  refine Rn_pop (by decide) (by clear a7 a8 b7 b8 push; omega) (Or.inl h4) ?_
  rw [app3]; exact hr
