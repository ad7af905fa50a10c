/-! ring -/
theorem alk_wh {P z z' : Fn2} (h1 : ∀ r, P 0 0 ≤ r → r < 8 → z 0 r = 0 ∧ z 1 r = 0) (h2 : ∀ r, P 0 0 ≤ r → r < 8 → z' 0 r = 0 ∧ z' 1 r = 0) (h : alk P z z') : wh8 z z' := by
  intro r a b
  by_cases hr : r < P 0 0
  · exact h r a hr
  · have e1 := h1 r (by omega) b
    have e2 := h2 r (by omega) b
    rw [e1.1, e1.2, e2.1, e2.2]; exact ⟨rfl, rfl⟩
/-- the course is a course: alike seconds have alike nexts -/
def Det (P : Fn2) (z : Nat → Fn2) : Prop := ∀ a b k : Nat, alk P (z a) (z b) → alk P (z (a + k)) (z (b + k))
theorem zz_det {σ : Sg} (hS : SgI σ) {i : Nat} (hi : i < 4) : Det (σ.2.1 i) (zz σ i) := by
  intro a b k h
  have hP := hS.2.2.2.2.2.2.1 i hi
  have hz : ∀ t r, σ.2.1 i 0 0 ≤ r → r < 8 → zz σ i t 0 r = 0 ∧ zz σ i t 1 r = 0 := fun t r h1 h2 => ((zz_iv hS hi t).1.1 r (by have := hP.1; omega) h2).2.2.2 h1
  have hw := alk_wh (hz a) (hz b) h
  have hs : SEq False False (σ.2.1 i) (zz σ i a) (zz σ i b) := ⟨hw, fun r _ _ => by
    show itS _ a _ 2 r = itS _ b _ 2 r
    rw [it_2, it_2], fun x => x.elim, fun x => x.elim⟩
  have := it_cong (L := LwF σ.2.2) (cw := σ.1 0 1) (jn := 1) (lr := -1) (lg := 0) hP hs k
  have e : ∀ t, itS (tickA (σ.2.1 i) (LwF σ.2.2) (σ.1 0 1) 1 (-1) 0) k (zz σ i t) = zz σ i (t + k) := by
    intro t
    show itS _ k (itS _ t _) = itS _ (t + k) _
    rw [← itS_add, Nat.add_comm]
  rw [e, e] at this
  intro r h1 h2
  exact this.1 r h1 (by have := hP.1; omega)
theorem alk.symm {P z z' : Fn2} (h : alk P z z') : alk P z' z := fun r a b => ⟨(h r a b).1.symm, (h r a b).2.symm⟩
theorem alk.trans {P z z' z'' : Fn2} (h : alk P z z') (g : alk P z' z'') : alk P z z'' := fun r a b => ⟨(h r a b).1.trans (g r a b).1, (h r a b).2.trans (g r a b).2⟩
/-- s is the first second that was there before, as second o -/
def Fst (P : Fn2) (z : Nat → Fn2) (o s : Nat) : Prop := o < s ∧ alk P (z o) (z s) ∧ ∀ a b : Nat, a < b → b < s → ¬ alk P (z a) (z b)
theorem ring_red {P : Fn2} {z : Nat → Fn2} {o s : Nat} (hd : Det P z) (h : Fst P z o s) : ∀ m : Nat, o ≤ m → ∃ j m0 : Nat, m = m0 + j * (s - o) ∧ o ≤ m0 ∧ m0 < s ∧ alk P (z m) (z m0) := by
  intro m
  induction m using Nat.strongRecOn with
  | _ m ih =>
    intro hm
    by_cases hs : m < s
    · exact ⟨0, m, by simp, hm, hs, fun _ _ _ => ⟨rfl, rfl⟩⟩
    · have h1 := h.1
      obtain ⟨j, m0, e1, e2, e3, e4⟩ := ih (m - (s - o)) (by omega) (by omega)
      refine ⟨j + 1, m0, ?_, e2, e3, ?_⟩
      · rw [Nat.add_mul]; omega
      · have h2 := hd o s (m - s) h.2.1
        rw [show o + (m - s) = m - (s - o) by omega, show s + (m - s) = m by omega] at h2
        exact h2.symm.trans e4
/-- the least way back from n is the ring's length -/
theorem ring_len {P : Fn2} {z : Nat → Fn2} {o s n v : Nat} (hd : Det P z) (h : Fst P z o s) (hs : s ≤ n) (hv1 : 1 ≤ v) (hv : v ≤ n) (ha : alk P (z n) (z (n - v))) (hno : ∀ w : Nat, 1 ≤ w → w < v → ¬ alk P (z n) (z (n - w))) : v = s - o := by
  have h1 := h.1
  have hp : alk P (z n) (z (n - (s - o))) := by
    have h2 := hd o s (n - s) h.2.1
    rw [show o + (n - s) = n - (s - o) by omega, show s + (n - s) = n by omega] at h2
    exact h2.symm
  rcases Nat.lt_trichotomy v (s - o) with hlt | heq | hgt
  · exfalso
    obtain ⟨j, n0, e1, e2, e3, e4⟩ := ring_red hd h n (by omega)
    by_cases hlo : o ≤ n - v
    · obtain ⟨j', n1, f1, f2, f3, f4⟩ := ring_red hd h (n - v) hlo
      have hal : alk P (z n0) (z n1) := (e4.symm.trans ha).trans f4
      rcases Nat.lt_trichotomy n0 n1 with g | g | g
      · exact h.2.2 n0 n1 g f3 hal
      · subst g
        rcases Nat.lt_or_ge j' j with hj | hj
        · have := Nat.mul_le_mul_right (s - o) (show j' + 1 ≤ j by omega)
          rw [Nat.add_mul] at this
          omega
        · have := Nat.mul_le_mul_right (s - o) hj
          omega
      · exact h.2.2 n1 n0 g e3 hal.symm
    · have hal : alk P (z (n - v)) (z n0) := ha.symm.trans e4
      exact h.2.2 (n - v) n0 (by omega) e3 hal
  · exact heq
  · exact absurd hp (hno (s - o) (by omega) hgt)
theorem ring_sta {P : Fn2} {z : Nat → Fn2} {o s n f : Nat} (h : Fst P z o s) (hs : s ≤ n) (hf : f + (s - o) ≤ n) (ha : f + (s - o) = n ∨ alk P (z f) (z (f + (s - o)))) (hno : ∀ w : Nat, w < f → ¬ alk P (z w) (z (w + (s - o)))) : f = o := by
  have h1 := h.1
  rcases Nat.lt_trichotomy f o with g | g | g
  · rcases ha with e | e
    · omega
    · exact absurd e (h.2.2 f (f + (s - o)) (by omega) (by omega))
  · exact g
  · have := hno o g
    rw [show o + (s - o) = s by omega] at this
    exact absurd h.2.1 this
/-- what ring answers -/
def RingA (σ : Sg) (s n w v : Int) : Prop :=
  (¬ ((0 ≤ s ∧ s < 4) ∧ (1 ≤ n ∧ n ≤ 1000) ∧ 0 ≤ w ∧ w ≤ 1) ∧ v = -1) ∨ ((0 ≤ s ∧ s < 4) ∧ (1 ≤ n ∧ n ≤ 1000) ∧ 0 ≤ w ∧ w ≤ 1) ∧
  ((v = -1 ∧ ∀ a b : Nat, a < b → b ≤ n.toNat → ¬ alk (σ.2.1 s.toNat) (zz σ s.toNat a) (zz σ s.toNat b)) ∨ ∃ o t : Nat, t ≤ n.toNat ∧ Fst (σ.2.1 s.toNat) (zz σ s.toNat) o t ∧ v = if w = 1 then ((t - o : Nat) : Int) else o)
theorem Fst.uniq {P : Fn2} {z : Nat → Fn2} {o s o' s' : Nat} (h : Fst P z o s) (h' : Fst P z o' s') : o = o' ∧ s = s' := by
  have es : s = s' := by
    rcases Nat.lt_trichotomy s s' with g | g | g
    · exact absurd h.2.1 (h'.2.2 o s h.1 g)
    · exact g
    · exact absurd h'.2.1 (h.2.2 o' s' h'.1 g)
  subst es
  refine ⟨?_, rfl⟩
  rcases Nat.lt_trichotomy o o' with g | g | g
  · exact absurd (h.2.1.trans h'.2.1.symm) (h.2.2 o o' g h'.1)
  · exact g
  · exact absurd (h'.2.1.trans h.2.1.symm) (h.2.2 o' o g h.1)
theorem RingA.uniq {σ : Sg} {s n w v v' : Int} (h : RingA σ s n w v) (h' : RingA σ s n w v') : v = v' := by
  rcases h with ⟨h1, h2⟩ | ⟨h1, h2⟩ <;> rcases h' with ⟨g1, g2⟩ | ⟨g1, g2⟩
  · omega
  · exact absurd g1 h1
  · exact absurd h1 g1
  · rcases h2 with ⟨e1, e2⟩ | ⟨o, t, a1, a2, a3⟩ <;> rcases g2 with ⟨f1, f2⟩ | ⟨o', t', b1, b2, b3⟩
    · omega
    · exact absurd b2.2.1 (e2 o' t' b2.1 b1)
    · exact absurd a2.2.1 (f2 o t a2.1 a1)
    · obtain ⟨e1, e2⟩ := a2.uniq b2
      subst e1; subst e2
      rw [a3, b3]
/-- there is a first second that was there before, or none -/
theorem fst_ex {P : Fn2} {z : Nat → Fn2} : ∀ n : Nat, (∃ o t : Nat, t ≤ n ∧ Fst P z o t) ∨ ∀ a b : Nat, a < b → b ≤ n → ¬ alk P (z a) (z b)
  | 0 => Or.inr fun a b h1 h2 => by omega
  | n + 1 => by
    rcases fst_ex (P := P) (z := z) n with ⟨o, t, h1, h2⟩ | h
    · exact Or.inl ⟨o, t, by omega, h2⟩
    · by_cases hx : ∃ a : Nat, a < n + 1 ∧ alk P (z a) (z (n + 1))
      · obtain ⟨a, ha, hal⟩ := hx
        exact Or.inl ⟨a, n + 1, Nat.le_refl _, ha, hal, fun a b h1 h2 => h a b h1 (by omega)⟩
      · refine Or.inr fun a b h1 h2 hal => ?_
        by_cases e : b = n + 1
        · subst e; exact hx ⟨a, h1, hal⟩
        · exact h a b h1 (by omega) hal
theorem c_ring {X : Int × (Int → Int)} {k : Nat} {Q : Vv → Fn2 → Fn2 → Fn2 → Prop} {F A R : Fn2} {σ : Sg} {q : Int → Int} {l s n w : Int} (hS : SgI σ) (hB : CB σ q l F A R) (hC : CC σ q l F A R) (hq : ∀ F' A' R' v, CQ σ q l F A R F' A' R' → RingA σ s n w v → Q (vI v) F' A' R') : Wp X (k + 9) m_X10_ring [vA 0, vI s, vI n, vI w] F A R Q := by
  have no : ¬ ((0 ≤ s ∧ s < 4) ∧ (1 ≤ n ∧ n ≤ 1000) ∧ 0 ≤ w ∧ w ≤ 1) → Q (vI (-1)) F A R := fun h => hq F A R (-1) (CQ.refl hB hC) (Or.inl ⟨h, rfl⟩)
  refine Wp.of [vA 0, vI s, vI n, vI w, vN, vN] rfl rfl rfl (b_X10_ring_0 (w_isShelf (k := k + 7) (fun h0 h4 => ?_) (fun h => b_X10_ring_4 ⟨fun _ => b_X10_ring_23 (no (fun h' => h h'.1)), fun h => absurd rfl h⟩)))
  refine b_X10_ring_4 ⟨fun h => absurd h (by decide), fun _ => w_isCourse (k := k + 7) (fun n0 n1 => ?_) (fun h => b_X10_ring_11 ⟨fun _ => b_X10_ring_23 (no (fun h' => h h'.2.1)), fun h => absurd rfl h⟩)⟩
  refine b_X10_ring_11 ⟨fun h => absurd h (by decide), fun _ => ⟨fun h => b_X10_ring_23 (no (by omega)), fun w0 => ⟨fun w1 => ?_, fun h => b_X10_ring_23 (no (by omega))⟩⟩⟩
  have hok : (0 ≤ s ∧ s < 4) ∧ (1 ≤ n ∧ n ≤ 1000) ∧ 0 ≤ w ∧ w ≤ 1 := by omega
  have hi : s.toNat < 4 := by omega
  have hP := hS.2.2.2.2.2.2.1 s.toNat hi
  have en : n = (n.toNat : Int) := by omega
  rw [show s = (s.toNat : Int) by omega]
  refine w_upTo (k := k) hS hB hC hi (by omega) (by omega) fun F' A' R' y1 y2 => ?_
  have h7 := y1.1.2.2.2.2.2.2.1 s.toNat hi
  have hst := y1.1.std hi
  have hk : ∀ t : Nat, t ≤ n.toNat → KeptA (crs s.toNat) A' (zz σ s.toNat t) t := fun t ht => y2 t (by omega)
  have hd := zz_det hS hi
  rw [en]
  refine b_X10_ring_31 (crs_at hi) (w_ringB (k := k + 6) (P := σ.2.1 s.toNat) (q := q s.toNat) (z := zz σ s.toNat) y1.1.1 (crs_at hi) (by omega) hk h7.1 hst.1 h7.2.2.1 hP (fun v v1 v2 v3 v4 => ?_) (fun hno => ?_))
  · have hf : ∃ o t : Nat, t ≤ n.toNat ∧ Fst (σ.2.1 s.toNat) (zz σ s.toNat) o t := by
      rcases fst_ex (P := σ.2.1 s.toNat) (z := zz σ s.toNat) n.toNat with h | h
      · exact h
      · exact absurd v3.symm (h (n.toNat - v) n.toNat (by omega) (Nat.le_refl _))
    obtain ⟨o, t, ht, hF⟩ := hf
    have ev := ring_len hd hF ht v1 v2 v3 v4
    have hlt := hF.1
    refine b_X10_ring_39 (crs_at hi) ⟨fun h => by omega, fun _ => ⟨fun hw => ?_, fun hw => ?_⟩⟩
    · refine w_ringS (k := k + 6) (P := σ.2.1 s.toNat) (q := q s.toNat) (z := zz σ s.toNat) y1.1.1 (crs_at hi) (by omega) v2 hk h7.1 hst.1 h7.2.2.1 hP fun f f1 f2 f3 => b_X10_ring_63 (crs_at hi) ?_
      subst ev
      have ef := ring_sta hF ht f1 f2 f3
      refine hq F' A' R' f y1 (Or.inr ⟨hok, Or.inr ⟨o, t, ht, hF, ?_⟩⟩)
      rw [if_neg hw, ef]
    · refine hq F' A' R' v y1 (Or.inr ⟨hok, Or.inr ⟨o, t, ht, hF, ?_⟩⟩)
      rw [if_pos hw, ev]
  · refine b_X10_ring_39 (crs_at hi) ⟨fun _ => hq F' A' R' (-1) y1 (Or.inr ⟨hok, Or.inl ⟨rfl, fun a b h1 h2 hal => ?_⟩⟩), fun h => absurd rfl h⟩
    have h3 := hd a b (n.toNat - b) hal
    rw [show b + (n.toNat - b) = n.toNat by omega] at h3
    refine hno (b - a) (by omega) (by omega) ?_
    rw [show n.toNat - (b - a) = a + (n.toNat - b) by omega]
    exact h3.symm
/-- the reference's rows of what it saw -/
def SeenR (Z : Nat → Fn2) (s : Nat) (A : Fn2) : Prop := ∀ t : Nat, t < s → ∀ r, 0 ≤ r → r < 8 → A 421 (8 * t + r) = Z t 0 r ∧ A 422 (8 * t + r) = Z t 1 r
def RY (F A F' A' : Fn2) : Prop := (∀ a, a < 396 ∨ 407 < a ∧ a ≠ 421 ∧ a ≠ 422 ∨ a = 397 → A' a = A a) ∧ ∀ x f, x ≠ 373 ∨ f < 48 ∨ 54 < f ∧ f ≠ 61 ∧ f ≠ 62 ∧ f ≠ 57 → F' x f = F x f
theorem RY.trans {F A F1 A1 F2 A2 : Fn2} (h : RY F A F1 A1) (g : RY F1 A1 F2 A2) : RY F A F2 A2 :=
  ⟨fun a h1 => (g.1 a h1).trans (h.1 a h1), fun x f h1 => (g.2 x f h1).trans (h.2 x f h1)⟩
theorem RX.y {F A F' A' : Fn2} (h : RX F A F' A') : RY F A F' A' := ⟨fun a h1 => h.1 a (by omega), fun x f h1 => h.2 x f (by omega)⟩
theorem RY.rf {F A F' A' : Fn2} (h : RY F A F' A') : RF F A F' A' := ⟨fun a h1 => h.1 a (by omega), fun f h1 => h.2 373 f (by omega), fun a h1 => funext fun f => h.2 a f (Or.inl h1)⟩
theorem RQ.ry {b cw jn t : Int} {P z F A A' : Fn2} {C : Nat → Option (List Int)} (h : RQ b cw jn t P C z F A) (x : ∀ a, a ≠ 421 → a ≠ 422 → A' a = A a) : RQ b cw jn t P C z F A' := by
  obtain ⟨⟨m1, m2, m3, m4, m5, m6, m7, m8⟩, ⟨k1, k2, k3, k4⟩, g3⟩ := h
  have z : ∀ i c, XL1 A i c → XL1 A' i c := fun i c hc => hc.of (x _ (by omega) (by omega)) (x _ (by omega) (by omega)) (x _ (by omega) (by omega)) (x _ (by omega) (by omega)) (x _ (by omega) (by omega))
  refine ⟨⟨m1, m2, m3, ?_, m5, z _ _ m6, z _ _ m7, z _ _ m8⟩, ⟨?_, ?_, ?_, k4⟩, g3⟩
  · rw [RPm_st (A := A) (A' := A') (fun a h1 h2 => x a (by omega) (by omega))]; exact m4
  · rw [x _ (by decide) (by decide)]; exact k1
  · rw [x _ (by decide) (by decide)]; exact k2
  · rw [x _ (by decide) (by decide)]; exact k3
theorem r_seeL {X : Int × (Int → Int)} {k : Nat} {Q : Vv → Fn2 → Fn2 → Fn2 → Prop} {R : Fn2} {b cw sh n w f : Int} {P : Fn2} {C : Nat → Option (List Int)} {Z : Nat → Fn2} {s : Nat} {w7 w8 : Vv} (hR : RS R) (hs : s ≤ 1000) {F A0 : Fn2} (hrq : RQ b cw 1 s P C (Z s) F A0) (hseen : SeenR Z s A0) (hq : ∀ A', RQ b cw 1 s P C (Z s) F A' → SeenR Z (s + 1) A' → (∀ a, a ≠ 421 → a ≠ 422 → A' a = A0 a) → G X k m_X11_ring Q 115 [vA 373, vI sh, vI n, vI w, vI f, vI s, vI 0, w7, w8] [] F A' R) : ∀ (m : Nat) (j : Int) (A : Fn2), 0 ≤ j → j + m = 8 → (∀ a, a ≠ 421 → a ≠ 422 → A a = A0 a) → SeenR Z s A → (∀ r, 0 ≤ r → r < j → A 421 (8 * s + r) = Z s 0 r ∧ A 422 (8 * s + r) = Z s 1 r) → G X k m_X11_ring Q 59 [vA 373, vI sh, vI n, vI w, vI f, vI s, vI j, w7, w8] [] F A R
  | 0, j, A, hj, hm, hx, hse, hr => by
    refine b_X11_ring_59 hR ⟨fun _ => hq A (hrq.ry hx) (fun t ht r a b => ?_) hx, fun h => absurd h (by omega)⟩
    by_cases e : t = s
    · subst e; exact hr r a (by omega)
    · exact hse t (by omega) r a b
  | m + 1, j, A, hj, hm, hx, hse, hr => by
    have hrq' := hrq.ry hx
    refine b_X11_ring_59 hR ⟨fun h => by omega, fun _ => ⟨by omega, by omega, hj, by omega, by omega, by omega, fun A1 h1 A2 h2 => ⟨by omega, ?_⟩⟩⟩
    have e398 : A 398 = Z s 0 := hrq'.2.1.1
    have e399 : A1 399 = Z s 1 := by rw [h1, st2_n (by decide)]; exact hrq'.2.1.2.1
    refine r_seeL hR hs hrq hseen hq m (j + 1) A2 (by omega) (by omega) (fun a h3 h4 => ?_) (fun t ht r a b => ?_) (fun r a b => ?_)
    · rw [h2, h1, st2_n h4, st2_n h3]; exact hx a h3 h4
    · rw [h2, h1]
      simp only [ne_eq, Int.add_right_inj, Int.reduceEq, not_false_eq_true, st2_n, st2_s, u1_s, u1_u1]
      rw [u1_n (by omega), u1_n (by omega)]; exact hse t ht r a b
    · rw [h2, h1]
      simp only [ne_eq, Int.add_right_inj, Int.reduceEq, not_false_eq_true, st2_n, st2_s, u1_s, u1_u1]
      by_cases e : r = j
      · subst e
        simp only [u1_s]
        exact ⟨by rw [e398], by rw [hrq'.2.1.2.1]⟩
      · rw [u1_n (by omega), u1_n (by omega)]; exact hr r a (by omega)
theorem r_sameL {X : Int × (Int → Int)} {k : Nat} {Q : Vv → Fn2 → Fn2 → Fn2 → Prop} {R : Fn2} {sh n w : Int} {P : Fn2} {Z : Nat → Fn2} {s o : Nat} {F A : Fn2} (hR : RS R) (hs : s ≤ 1000) (ho : o < s) (hP : WFP P) (h49 : F 373 49 = P 0 0) (h398 : A 398 = Z s 0) (h399 : A 399 = Z s 1) (hse : SeenR Z (s + 1) A) (hq : ∀ x7 x8 : Int, alk P (Z o) (Z s) → G X k m_X11_ring Q 115 [vA 373, vI sh, vI n, vI w, vI o, vI s, vI ((o : Int) + 1), vI x7, vI x8] [] F A R) (hq' : ∀ x7 x8 : Int, ¬ alk P (Z o) (Z s) → G X k m_X11_ring Q 115 [vA 373, vI sh, vI n, vI w, vI (-1), vI s, vI ((o : Int) + 1), vI x7, vI x8] [] F A R) : ∀ (m : Nat) (j : Int), 0 ≤ j → j + m = P 0 0 → (∀ r, 0 ≤ r → r < j → Z o 0 r = Z s 0 r ∧ Z o 1 r = Z s 1 r) → G X k m_X11_ring Q 133 [vA 373, vI sh, vI n, vI w, vI (-1), vI s, vI o, vI 1, vI j] [] F A R
  | 0, j, hj, hm, ha => by
    refine b_X11_ring_133 hR ?_
    rw [h49]
    exact ⟨fun _ => ⟨fun h => absurd h (by decide), fun _ => ⟨by omega, hq _ _ fun r a b => ha r a (by omega)⟩⟩, fun h => by omega⟩
  | m + 1, j, hj, hm, ha => by
    have h8 := hP.1
    have bad : ∀ x8 : Int, ¬ alk P (Z o) (Z s) → G X k m_X11_ring Q 133 [vA 373, vI sh, vI n, vI w, vI (-1), vI s, vI o, vI 0, vI x8] [] F A R := by
      intro x8 hn
      refine b_X11_ring_133 hR ⟨fun _ => ⟨fun _ => ⟨by omega, hq' _ _ hn⟩, fun h => absurd rfl h⟩, fun _ => ⟨fun _ => ⟨fun _ => ⟨by omega, hq' _ _ hn⟩, fun h => absurd rfl h⟩, fun h => absurd rfl h⟩⟩
    have h1 := hse o (by omega) j hj (by omega)
    refine b_X11_ring_133 hR ?_
    rw [h49, h1.1, h1.2, h398, h399]
    refine ⟨fun h => by omega, fun _ => ⟨fun h => absurd h (by decide), fun _ => ⟨by omega, by omega, by omega, by omega, hj, by omega, fun hx => ⟨by omega, bad _ fun h => hx (h j hj (by omega)).1⟩, fun hx => ⟨fun hx2 => ⟨by omega, bad _ fun h => hx2 (h j hj (by omega)).2⟩, fun hx2 => ⟨by omega, ?_⟩⟩⟩⟩⟩
    refine r_sameL hR hs ho hP h49 h398 h399 hse hq hq' m (j + 1) (by omega) (by omega) fun r a b => ?_
    by_cases e : r = j
    · subst e; exact ⟨hx, hx2⟩
    · exact ha r a (by omega)
/-- second s is held against all before it -/
theorem r_findL {X : Int × (Int → Int)} {k : Nat} {Q : Vv → Fn2 → Fn2 → Fn2 → Prop} {R : Fn2} {sh n w : Int} {P : Fn2} {Z : Nat → Fn2} {s : Nat} {F A : Fn2} (hR : RS R) (hs : s ≤ 1000) (hP : WFP P) (h49 : F 373 49 = P 0 0) (h398 : A 398 = Z s 0) (h399 : A 399 = Z s 1) (hse : SeenR Z (s + 1) A) (hq : ∀ (o : Nat) (x6 : Int) (w7 w8 : Vv), o < s → alk P (Z o) (Z s) → G X k m_X11_ring Q 36 [vA 373, vI sh, vI n, vI w, vI o, vI ((s : Int) + 1), vI x6, w7, w8] [] F A R) (hq' : ∀ (x6 : Int) (w7 w8 : Vv), (∀ o : Nat, o < s → ¬ alk P (Z o) (Z s)) → G X k m_X11_ring Q 36 [vA 373, vI sh, vI n, vI w, vI (-1), vI ((s : Int) + 1), vI x6, w7, w8] [] F A R) : ∀ (m o : Nat) (w7 w8 : Vv), o + m = s → (∀ x : Nat, x < o → ¬ alk P (Z x) (Z s)) → G X k m_X11_ring Q 115 [vA 373, vI sh, vI n, vI w, vI (-1), vI s, vI o, w7, w8] [] F A R
  | 0, o, w7, w8, hm, ha => by
    have e : o = s := by omega
    subst e
    exact b_X11_ring_115 ⟨fun _ => ⟨by omega, hq' _ _ _ ha⟩, fun h => absurd h (by omega)⟩
  | m + 1, o, w7, w8, hm, ha => by
    refine b_X11_ring_115 ⟨fun h => by omega, fun _ => ⟨fun h => absurd (show (-1 : Int) < 0 by decide) h, fun _ => ?_⟩⟩
    refine r_sameL hR hs (by omega) hP h49 h398 h399 hse (fun x7 x8 hal => ?_) (fun x7 x8 hal => ?_) (rms P) 0 (by omega) (by rw [rms_e hP]; omega) (fun r a b => by omega)
    · by_cases e : o + 1 < s
      · refine b_X11_ring_115 ⟨fun h => by omega, fun _ => ⟨fun _ => ⟨by omega, hq o _ _ _ (by omega) hal⟩, fun h => by omega⟩⟩
      · exact b_X11_ring_115 ⟨fun _ => ⟨by omega, hq o _ _ _ (by omega) hal⟩, fun h => absurd h (by omega)⟩
    · have := r_findL (X := X) (k := k) hR hs hP h49 h398 h399 hse hq hq' m (o + 1) (vI x7) (vI x8) (by omega) fun x hx => by
        by_cases e : x = o
        · subst e; exact hal
        · exact ha x (by omega)
      exact this
theorem r_ringL {X : Int × (Int → Int)} {k : Nat} {Q : Vv → Fn2 → Fn2 → Fn2 → Prop} {R : Fn2} {σ : Sg} {b : Int → Int} {w : Int} {N i : Nat} {s0 F0 A0 : Fn2} (hR : RS R) (hS : SgI σ) (hX : XI σ b F0 A0) (hi : i < 4) (hN : N ≤ 1000) (hN1 : 1 ≤ N) (hw : 0 ≤ w ∧ w ≤ 1) (hsq : SEq True True (RPm (b i) A0) s0 (zeroS (RPm (b i) A0 5))) (hI : Iv (RPm (b i) A0) 0 0 0 0 0 s0) (hq : ∀ F' A' v, RY F0 A0 F' A' → RingA σ i N w v → Q (vI v) F' A' R) : ∀ (m s : Nat) (F A : Fn2) (w6 w7 w8 : Vv), s + m = N + 1 → (s = 0 → RQ (b i) (σ.1 0 1) 1 0 (RPm (b i) A0) σ.2.2 s0 F A) → (∀ t : Nat, s = t + 1 → RQ (b i) (σ.1 0 1) 1 t (RPm (b i) A0) σ.2.2 (itS (tickA (RPm (b i) A0) (LwF σ.2.2) (σ.1 0 1) 1 (-1) 0) t s0) F A) → SeenR (fun t => itS (tickA (RPm (b i) A0) (LwF σ.2.2) (σ.1 0 1) 1 (-1) 0) t s0) s A → RY F0 A0 F A → (∀ a b' : Nat, a < b' → b' < s → ¬ alk (σ.2.1 i) (zz σ i a) (zz σ i b')) → G X (k + 6) m_X11_ring Q 36 [vA 373, vI i, vI N, vI w, vI (-1), vI s, w6, w7, w8] [] F A R
  | 0, s, F, A, w6, w7, w8, hm, h0, ht, hse, hX1, hno => by
    refine b_X11_ring_36 ⟨fun _ => ⟨fun h => absurd (show (-1 : Int) < 0 by decide) h, fun _ => hq F A (-1) hX1 (Or.inr ⟨by omega, Or.inl ⟨rfl, fun a b' h1 h2 => ?_⟩⟩)⟩, fun h => absurd (show (N : Int) < s by omega) h⟩
    have e : ((i : Nat) : Int).toNat = i := by omega
    rw [e]
    exact hno a b' h1 (by omega)
  | m + 1, s, F, A, w6, w7, w8, hm, h0, ht, hse, hX1, hno => by
    have hP' := (hX.2.2.1 i hi).2.2
    have he := (hX.2.2.1 i hi).2.1
    have hP := hS.2.2.2.2.2.2.1 i hi
    have hzz : ∀ t : Nat, SEq True True (σ.2.1 i) (zz σ i t) (itS (tickA (RPm (b i) A0) (LwF σ.2.2) (σ.1 0 1) 1 (-1) 0) t s0) := fun t => r_it (w := σ.2.1 i 5) hS hX hi hsq (fun r a b => (he.2.2.1 r a b).2.2.2.1) t
    have halk : ∀ a c : Nat, alk (RPm (b i) A0) (itS (tickA (RPm (b i) A0) (LwF σ.2.2) (σ.1 0 1) 1 (-1) 0) a s0) (itS (tickA (RPm (b i) A0) (LwF σ.2.2) (σ.1 0 1) 1 (-1) 0) c s0) ↔ alk (σ.2.1 i) (zz σ i a) (zz σ i c) := by
      intro a c
      have h8 := hP.1
      constructor
      · intro h r h1 h2
        have e1 := (hzz a).1 r h1 (by omega)
        have e2 := (hzz c).1 r h1 (by omega)
        rw [e1.1, e1.2, e2.1, e2.2]
        exact h r h1 (by rw [← he.1]; exact h2)
      · intro h r h1 h2
        rw [← he.1] at h2
        have e1 := (hzz a).1 r h1 (by omega)
        have e2 := (hzz c).1 r h1 (by omega)
        rw [← e1.1, ← e1.2, ← e2.1, ← e2.2]
        exact h r h1 h2
    have hIt := iv_it (jn := 1) (lr := -1) (lg := 0) hP' (LwF_ok (C := σ.2.2)) hS.2.1.1 hS.2.1.2 (by omega) (hI.mono (K' := 0) (t' := 1920) (c' := 0) (a' := 0) (g' := 0) (by omega) (by omega) (by omega) (by omega) (by omega))
    -- once second s stands
    have on : ∀ F1 A1, RQ (b i) (σ.1 0 1) 1 s (RPm (b i) A0) σ.2.2 (itS (tickA (RPm (b i) A0) (LwF σ.2.2) (σ.1 0 1) 1 (-1) 0) s s0) F1 A1 → SeenR (fun t => itS (tickA (RPm (b i) A0) (LwF σ.2.2) (σ.1 0 1) 1 (-1) 0) t s0) s A1 → RY F0 A0 F1 A1 → G X (k + 6) m_X11_ring Q 56 [vA 373, vI i, vI N, vI w, vI (-1), vI s, w6, w7, w8] [] F1 A1 R := by
      intro F1 A1 hrq hse1 hX2
      refine b_X11_ring_56 (r_seeL (Z := fun t => itS (tickA (RPm (b i) A0) (LwF σ.2.2) (σ.1 0 1) 1 (-1) 0) t s0) hR (by omega) hrq hse1 (fun A2 v1 v2 v3 => ?_) 8 0 A1 (by omega) (by omega) (fun _ _ _ => rfl) hse1 (fun r a b => by omega))
      have hX3 : RY F0 A0 F1 A2 := ⟨fun a ha => by rw [v3 a (by omega) (by omega)]; exact hX2.1 a ha, hX2.2⟩
      refine r_findL (Z := fun t => itS (tickA (RPm (b i) A0) (LwF σ.2.2) (σ.1 0 1) 1 (-1) 0) t s0) hR (by omega) hP' v1.1.2.2.2.2.1 v1.2.1.1 v1.2.1.2.1 v2 (fun o x6 w7 w8 ho hal => ?_) (fun x6 w7 w8 hno2 => ?_) s 0 _ _ (by omega) (fun x hx => by omega)
      · have h50 := v1.2.2.2.2.2
        have hF : Fst (σ.2.1 i) (zz σ i) o s := ⟨ho, (halk o s).1 hal, hno⟩
        have ans : Q (vI (if w = 1 then ((s - o : Nat) : Int) else o)) F1 A2 R := by
          refine hq F1 A2 _ hX3 (Or.inr ⟨by omega, Or.inr ⟨o, s, by omega, ?_, rfl⟩⟩)
          rw [show ((i : Nat) : Int).toNat = i by omega]; exact hF
        have tl : (¬ (o : Int) < 0 → ((¬ w = 0 → ((-2147483648 ≤ F1 373 50 - o ∧ F1 373 50 - o ≤ 2147483647) ∧ Q (vI (F1 373 50 - o)) F1 A2 R)) ∧ (w = 0 → Q (vI o) F1 A2 R))) ∧ ((o : Int) < 0 → Q (vI (-1)) F1 A2 R) := by
          rw [h50]
          refine ⟨fun _ => ⟨fun h => ⟨by omega, ?_⟩, fun h => ?_⟩, fun h => by omega⟩
          · rw [if_pos (by omega), show ((s - o : Nat) : Int) = (s : Int) - o by omega] at ans; exact ans
          · rw [if_neg (by omega)] at ans; exact ans
        exact b_X11_ring_36 ⟨fun _ => tl, fun _ => ⟨fun _ => tl, fun h => by omega⟩⟩
      · have hno3 : ∀ a b' : Nat, a < b' → b' < s + 1 → ¬ alk (σ.2.1 i) (zz σ i a) (zz σ i b') := fun a b' h1 h2 => by
          by_cases e : b' = s
          · subst e; exact fun h => hno2 a h1 ((halk a _).2 h)
          · exact hno a b' h1 (by omega)
        have := r_ringL (X := X) (k := k) hR hS hX hi hN hN1 hw hsq hI hq m (s + 1) F1 A2 (vI x6) w7 w8 (by omega) (fun h => by omega) (fun t h => by
          have : t = s := by omega
          subst this; exact v1) v2 hX3 hno3
        exact this
    refine b_X11_ring_36 ⟨fun h => by omega, fun _ => ⟨fun h => absurd (show (-1 : Int) < 0 by decide) h, fun _ => ⟨fun h => ?_, fun h => ?_⟩⟩⟩
    · have e : s = 0 := by omega
      subst e
      exact on F A (h0 rfl) hse hX1
    · obtain ⟨t, et⟩ : ∃ t, s = t + 1 := ⟨s - 1, by omega⟩
      have hrq := ht t et
      refine x_sec (k := k) hR hP' (hIt t) (by omega) (by omega) (by omega) (by omega) hS.2.1.1 hS.2.1.2 (by omega) (by omega) hrq fun F1 A1 y1 y2 y3 y4 y5 => ?_
      have e : tick0 (RPm (b i) A0) (LwF σ.2.2) (σ.1 0 1) 1 (itS (tickA (RPm (b i) A0) (LwF σ.2.2) (σ.1 0 1) 1 (-1) 0) t s0) = itS (tickA (RPm (b i) A0) (LwF σ.2.2) (σ.1 0 1) 1 (-1) 0) (t + 1) s0 := (tick_led0 (by omega)).symm
      rw [e, show (t : Int) + 1 = s by omega, ← et] at y1
      refine on F1 A1 y1 (fun x hx r a b => ?_) (hX1.trans y2.y)
      rw [y2.1 421 (by omega), y2.1 422 (by omega)]; exact hse x hx r a b
theorem r_ring {X : Int × (Int → Int)} {k : Nat} {Q : Vv → Fn2 → Fn2 → Fn2 → Prop} {F A R : Fn2} {σ : Sg} {b : Int → Int} {s n w : Int} (hR : RS R) (hS : SgI σ) (hX : XI σ b F A) (hq : ∀ F' A' v, XI σ b F' A' → RF F A F' A' → RingA σ s n w v → Q (vI v) F' A' R) : Wp X (k + 7) m_X11_ring [vA 373, vI s, vI n, vI w] F A R Q := by
  have no : ¬ ((0 ≤ s ∧ s < 4) ∧ (1 ≤ n ∧ n ≤ 1000) ∧ 0 ≤ w ∧ w ≤ 1) → Q (vI (-1)) F A R := fun h => hq F A (-1) hX RF.refl (Or.inl ⟨h, rfl⟩)
  refine Wp.of [vA 373, vI s, vI n, vI w, vN, vN, vN, vN, vN] rfl rfl rfl (b_X11_ring_0 (x_isShelf (k := k + 5) (fun h0 h4 => ?_) (fun h => b_X11_ring_4 ⟨fun _ => no (fun h' => h h'.1), fun h => absurd rfl h⟩)))
  refine b_X11_ring_4 ⟨fun h => absurd h (by decide), fun _ => x_isCourse (k := k + 4) (fun n0 n1 => ?_) (fun h => b_X11_ring_11 ⟨fun _ => no (fun h' => h h'.2.1), fun h => absurd rfl h⟩)⟩
  refine b_X11_ring_11 ⟨fun h => absurd h (by decide), fun _ => x_isIn (k := k + 5) (fun w0 w1 => ?_) (fun h => b_X11_ring_20 ⟨fun h => absurd rfl h, fun _ => no (fun h' => h h'.2.2)⟩)⟩
  have hi : s.toNat < 4 := by omega
  have en : n = (n.toNat : Int) := by omega
  have es : s = (s.toNat : Int) := by omega
  refine b_X11_ring_20 ⟨fun _ => ?_, fun h => absurd h (by decide)⟩
  rw [es]
  refine x_beginX (k := k + 5) hR hX hi fun F1 A1 z x1 hX1 hrq hz hI h56 h57 hw hf hA => b_X11_ring_30 ?_
  rw [en]
  have e1 : RPm (b s.toNat) A1 = RPm (b s.toNat) A := RPm_st fun a h1 h2 => x1.1 a (by omega)
  rw [← e1] at hrq hz hI
  refine r_ringL (X := X) (k := k) (F0 := F1) (A0 := A1) hR hS hX1 hi (by omega) (by omega) ⟨w0, w1⟩ hz hI (fun F' A' v y1 y2 => ?_) (n.toNat + 1) 0 F1 A1 vN vN vN (by omega) (fun _ => hrq) (fun t h => by omega) (fun t h => by omega) ⟨fun _ _ => rfl, fun _ _ _ => rfl⟩ (fun a b' h1 h2 => by omega)
  rw [← es, ← en] at y2
  exact hq F' A' v (hX1.rf y1.rf) (x1.trans y1.rf) y2
