/-! THE BOARD, the class: counting and weighing -/
theorem ct_le2 {p q : Int → Bool} {m n : Nat} (hm : m ≤ n) (h : ∀ i : Int, 0 ≤ i → i < m → p i = true → q i = true) : ct p m ≤ ct q n := by
  have a := ct_le m h
  have b : ∀ d : Nat, ct q m ≤ ct q (m + d) := fun d => by
    induction d with
    | zero => exact Int.le_refl _
    | succ d ih =>
      have e : ct q (m + (d + 1)) = ct q (m + d) + (if q ((m + d : Nat) : Int) = true then 1 else 0) := rfl
      rw [e]; split <;> omega
  have := b (n - m)
  rw [show m + (n - m) = n by omega] at this
  omega
theorem ct_cut {p : Int → Bool} {m : Nat} : ∀ n : Nat, m ≤ n → (∀ i : Int, (m : Int) ≤ i → i < n → p i ≠ true) → ct p n = ct p m
  | 0, h, _ => by rw [show m = 0 by omega]
  | n + 1, h, hp => by
    by_cases e : m = n + 1
    · rw [e]
    · rw [ct_s, ct_cut n (by omega) (fun i a b => hp i a (by omega)), if_neg (hp n (by omega) (by omega))]; omega
theorem ct_z {p : Int → Bool} (n : Nat) (h : ∀ i : Int, 0 ≤ i → i < n → p i ≠ true) : ct p n = 0 := ct_cut n (Nat.zero_le n) (fun i a b => h i a b)
def inR (l : Int → Int) (a b i : Int) : Bool := decide (a ≤ l i ∧ l i ≤ b)
theorem inR_t {l : Int → Int} {a b i : Int} : inR l a b i = true ↔ a ≤ l i ∧ l i ≤ b := decide_eq_true_iff
def qW (l w : Int → Int) (a b r h j : Int) : Bool := decide (a ≤ l j ∧ l j ≤ b ∧ w h - w j ≤ 2 * r)
theorem qW_t {l w : Int → Int} {a b r h j : Int} : qW l w a b r h j = true ↔ a ≤ l j ∧ l j ≤ b ∧ w h - w j ≤ 2 * r := decide_eq_true_iff
def vW (l w : Int → Int) (a b r h : Int) : Int := if inR l a b h = true then ct (qW l w a b r h) (h + 1).toNat else 0
abbrev srtd (w : Int → Int) (n : Nat) : Prop := ∀ i j : Int, 0 ≤ i → i ≤ j → j < n → w i ≤ w j
/-- a window that ends at a wait hits as many as a middle -/
theorem Tb.win {c : Cf} {n : Nat} {l w : Int → Int} {a b r : Int} (T : Tb c n l w) (hs : srtd w n) (r0 : 0 ≤ r) : mxr (vW l w a b r) 0 n = mH c a b r := by
  refine Int.le_antisymm (mxr_ub _ (T.mH0 a b r).1 (fun h h0 h1 => ?_)) ?_
  · unfold vW
    split
    · have hb := T.2.2 h h0 (by omega)
      refine Int.le_trans ?_ (T.cHm (a := a) (b := b) (r := r) (m := max 0 (w h - r)) (by omega) (by omega))
      rw [T.cHe]
      refine ct_le2 (by omega) (fun j j0 j1 jq => ?_)
      have q := qW_t.1 jq
      have := hs j h j0 (by omega) (by omega)
      have := T.2.2 j j0 (by omega)
      exact hP_t.2 ⟨q.1, q.2.1, by omega, by omega⟩
    · exact (T.mH0 a b r).1
  · obtain ⟨m, m0, m1, e⟩ := T.mHat a b r
    rw [← e]
    by_cases z : 0 < cH c a b r m
    · have e' := T.cHe (a := a) (b := b) (r := r) (m := m)
      rw [e'] at z ⊢
      obtain ⟨h, h0, h1, hp, hm⟩ := ct_mx (fun i => i) n z
      have p := hP_t.1 hp
      refine Int.le_trans ?_ (mxr_le (f := vW l w a b r) (i := 0) (j := h) n h0 (by omega))
      unfold vW
      rw [if_pos (inR_t.2 ⟨p.1, p.2.1⟩), ct_cut (m := (h + 1).toNat) n (by omega) (fun i a b ip => by have := hm i (by omega) b ip; omega)]
      refine ct_le _ (fun j j0 j1 jp => ?_)
      have q := hP_t.1 jp
      exact qW_t.2 ⟨q.1, q.2.1, by omega⟩
    · exact Int.le_trans (by omega) (mxr_0 n)
theorem Tb.mHe {c : Cf} {n : Nat} {l w : Int → Int} {a b a' b' r : Int} (T : Tb c n l w) (h : ∀ i : Int, 0 ≤ i → i < n → (a ≤ l i ∧ l i ≤ b ↔ a' ≤ l i ∧ l i ≤ b')) : mH c a b r = mH c a' b' r := by
  refine mxr_e _ (fun m _ _ => ?_)
  rw [T.cHe, T.cHe]
  refine ct_e n (fun i i0 i1 => ?_)
  unfold hP
  have := h i i0 i1
  exact decide_eq_decide.2 (by omega)
theorem Tb.mHz {c : Cf} {n : Nat} {l w : Int → Int} {a b r : Int} (T : Tb c n l w) (h : ∀ i : Int, 0 ≤ i → i < n → ¬ (a ≤ l i ∧ l i ≤ b)) : mH c a b r = 0 := by
  refine Int.le_antisymm (mxr_ub _ (Int.le_refl 0) (fun m _ _ => ?_)) (T.mH0 a b r).1
  rw [T.cHe, ct_z n (fun i i0 i1 ip => h i i0 i1 ⟨(hP_t.1 ip).1, (hP_t.1 ip).2.1⟩)]; exact Int.le_refl 0
/-- the sights that the class has gathered -/
def BdT (c : Cf) (n : Nat) (F A : Fn2) : Prop := Tb c n (A 72) (A 73) ∧ F 71 1 = n ∧ srtd (A 73) n ∧ ∀ x, 0 ≤ x → x ≤ 99 → (¬ A 74 x = 0 ↔ ∃ i : Int, 0 ≤ i ∧ i < n ∧ A 72 i = x)
theorem c_cmost {X : Int × (Int → Int)} {k : Nat} {Q : Vv → Fn2 → Fn2 → Fn2 → Prop} {F A R : Fn2} {n : Nat} {c : Cf} {a b r : Int} (hR : RS R) (hT : BdT c n F A) (r0 : 0 ≤ r) (r1 : r ≤ 999) (hq : Q (vI (mH c a b r)) F A R) : Wp X (k + 1) m_X0_countMost [vA 71, vI a, vI b, vI r] F A R Q := by
  obtain ⟨T, hn, srt, hseen⟩ := hT
  have n60 := T.2.1
  rw [← T.win srt r0] at hq
  have l49 : ∀ (head : Nat), head < n → inR (A 72) a b head = true → (∀ (most ins : Int) (tail : Nat), tail ≤ head → ins = ct (inR (A 72) a b) (head + 1) - ct (inR (A 72) a b) tail → (∀ j : Int, 0 ≤ j → j < tail → ∀ i : Int, (head : Int) ≤ i → i < n → 2 * r < A 73 i - A 73 j) → most = mxr (vW (A 72) (A 73) a b r) 0 (head + 1) → G X k m_X0_countMost Q 12 [vA 71, vI a, vI b, vI r, vI most, vI ins, vI tail, vI ((head : Int) + 1)] [] F A R) → ∀ (g : Nat) (most ins : Int) (tail : Nat), head - tail ≤ g → tail ≤ head → ins = ct (inR (A 72) a b) (head + 1) - ct (inR (A 72) a b) tail → (∀ j : Int, 0 ≤ j → j < tail → ∀ i : Int, (head : Int) ≤ i → i < n → 2 * r < A 73 i - A 73 j) → most = mxr (vW (A 72) (A 73) a b r) 0 head → G X k m_X0_countMost Q 49 [vA 71, vI a, vI b, vI r, vI most, vI ins, vI tail, vI head] [] F A R := by
    intro head hh hin cont g
    have fin : ∀ (most ins : Int) (tail : Nat), tail ≤ head → ins = ct (inR (A 72) a b) (head + 1) - ct (inR (A 72) a b) tail → (∀ j : Int, 0 ≤ j → j < tail → ∀ i : Int, (head : Int) ≤ i → i < n → 2 * r < A 73 i - A 73 j) → most = mxr (vW (A 72) (A 73) a b r) 0 head → (∀ j : Int, (tail : Int) ≤ j → j ≤ head → A 73 head - A 73 j ≤ 2 * r) → ∀ g1, g1 = max most ins → ((-2147483648 ≤ (head : Int) + 1 ∧ (head : Int) + 1 ≤ 2147483647) ∧ G X k m_X0_countMost Q 12 [vA 71, vI a, vI b, vI r, vI g1, vI ins, vI tail, vI ((head : Int) + 1)] [] F A R) := by
      intro most ins tail ht hi hj hm hin2 g1 hg1
      refine ⟨by omega, cont g1 ins tail ht hi hj ?_⟩
      have e : vW (A 72) (A 73) a b r (0 + (head : Int)) = ins := by
        rw [show (0 : Int) + head = head by omega]
        unfold vW
        rw [if_pos hin, show ((head : Int) + 1).toNat = head + 1 by omega, hi]
        refine ct_split (head + 1) (by omega) (fun j j0 j1 => ?_) (fun j j0 j1 => ?_)
        · have := hj j j0 j1 head (by omega) (by omega)
          exact decide_eq_false (by omega)
        · have := hin2 j j0 (by omega)
          unfold qW inR
          exact decide_eq_decide.2 (by omega)
      rw [hg1, hm, mxr_s, e]
    induction g with
    | zero =>
      intro most ins tail hg ht hi hj hm
      have e : tail = head := by omega
      refine b_X0_countMost_49 hR ⟨fun _ => fin most ins tail ht hi hj hm (fun j j0 j1 => ?_), fun h => absurd h (by omega)⟩
      rw [show j = head by omega]; omega
    | succ g ih =>
      intro most ins tail hg ht hi hj hm
      have cb1 := ct_b (inR (A 72) a b) (head + 1)
      have cb2 := ct_b (inR (A 72) a b) tail
      refine b_X0_countMost_49 hR ⟨fun hge => fin most ins tail ht hi hj hm (fun j j0 j1 => ?_), fun hlt => ?_⟩
      · rw [show j = head by omega]; omega
      · have w1 := T.2.2 head (by omega) (by omega)
        have w2 := T.2.2 tail (by omega) (by omega)
        have st := srt tail head (by omega) (by omega) (by omega)
        refine ⟨by omega, by omega, by omega, by omega, by omega, by omega, fun hle => fin most ins tail ht hi hj hm (fun j j0 j1 => ?_), fun hgt => ?_⟩
        · have := srt tail j (by omega) j0 (by omega)
          omega
        · have hj' : ∀ j : Int, 0 ≤ j → j < ((tail + 1 : Nat) : Int) → ∀ i : Int, (head : Int) ≤ i → i < n → 2 * r < A 73 i - A 73 j := fun j j0 j1 i i0 i1 => by
            by_cases e : j = tail
            · have := srt head i (by omega) i0 i1
              rw [e]; omega
            · exact hj j j0 (by omega) i i0 i1
          have no : ¬ (a ≤ A 72 tail ∧ A 72 tail ≤ b) → G X k m_X0_countMost Q 49 [vA 71, vI a, vI b, vI r, vI most, vI ins, vI ((tail : Int) + 1), vI head] [] F A R := fun hno =>
            ih most ins (tail + 1) (by omega) (by omega) (by rw [hi, ct_s (n := tail), if_neg (fun z => hno (inR_t.1 z))]; omega) hj' hm
          refine ⟨fun h1 => ⟨by omega, no (by omega)⟩, fun h1 => ⟨fun h2 => ⟨by omega, no (by omega)⟩, fun h2 => ⟨by omega, by omega, ?_⟩⟩⟩
          exact ih most (ins + -1) (tail + 1) (by omega) (by omega) (by rw [hi, ct_s (n := tail), if_pos (inR_t.2 (by omega))]; omega) hj' hm
  have l12 : ∀ (g head : Nat) (most ins : Int) (tail : Nat), head + g = n → tail ≤ head → ins = ct (inR (A 72) a b) head - ct (inR (A 72) a b) tail → (∀ j : Int, 0 ≤ j → j < tail → ∀ i : Int, (head : Int) ≤ i → i < n → 2 * r < A 73 i - A 73 j) → most = mxr (vW (A 72) (A 73) a b r) 0 head → G X k m_X0_countMost Q 12 [vA 71, vI a, vI b, vI r, vI most, vI ins, vI tail, vI head] [] F A R := by
    intro g
    induction g with
    | zero =>
      intro head most ins tail hg ht hi hj hm
      have e : head = n := by omega
      subst e
      refine b_X0_countMost_12 hR ⟨fun _ => by rw [hm]; exact hq, fun h => absurd h (by rw [hn]; omega)⟩
    | succ g ih =>
      intro head most ins tail hg ht hi hj hm
      have hlt : head < n := by omega
      have cb1 := ct_b (inR (A 72) a b) head
      have cb2 := ct_b (inR (A 72) a b) tail
      have m0 := mxr_0 (f := vW (A 72) (A 73) a b r) (i := 0) head
      have no : ¬ (a ≤ A 72 head ∧ A 72 head ≤ b) → G X k m_X0_countMost Q 12 [vA 71, vI a, vI b, vI r, vI most, vI ins, vI tail, vI ((head : Int) + 1)] [] F A R := fun hno => by
        have hf : ¬ inR (A 72) a b head = true := fun z => hno (inR_t.1 z)
        refine ih (head + 1) most ins tail (by omega) (by omega) (by rw [ct_s (n := head), if_neg hf, hi]; omega) (fun j j0 j1 i i0 i1 => hj j j0 j1 i (by omega) i1) ?_
        have e : vW (A 72) (A 73) a b r (0 + (head : Int)) = 0 := by
          rw [show (0 : Int) + head = head by omega]
          unfold vW; rw [if_neg hf]
        rw [mxr_s, e, hm]; omega
      refine b_X0_countMost_12 hR ⟨fun h => absurd (show (head : Int) < F 71 1 by rw [hn]; omega) h, fun _ => ⟨by omega, by omega, fun h1 => ⟨by omega, no (by omega)⟩, fun h1 => ⟨fun h2 => ⟨by omega, ?_⟩, fun h2 => ⟨by omega, no (by omega)⟩⟩⟩⟩
      have hin : inR (A 72) a b head = true := inR_t.2 (by omega)
      exact l49 head hlt hin (fun most' ins' tail' t' i' j' m' => ih (head + 1) most' ins' tail' (by omega) (by omega) i' (fun j j0 j1 i i0 i1 => j' j j0 j1 i (by omega) i1) m') (head - tail) most (ins + 1) tail (Nat.le_refl _) ht (by rw [ct_s (n := head), if_pos hin, hi]; omega) hj hm
  refine Wp.of [vA 71, vI a, vI b, vI r, vN, vN, vN, vN] rfl rfl rfl (b_X0_countMost_0 ?_)
  exact l12 n 0 0 0 0 (by omega) (Nat.le_refl 0) rfl (fun j j0 j1 => absurd j1 (by omega)) rfl
theorem c_chits {X : Int × (Int → Int)} {k : Nat} {Q : Vv → Fn2 → Fn2 → Fn2 → Prop} {F A R : Fn2} {n : Nat} {c : Cf} {a b m r : Int} (hR : RS R) (hT : BdT c n F A) (h0 : F 71 0 = r) (r0 : 0 ≤ r) (r1 : r ≤ 999) (m0 : 0 ≤ m) (m1 : m ≤ 999) (hq : Q (vI (cH c a b r m)) F A R) : Wp X (k + 1) m_X0_countHits [vA 71, vI a, vI b, vI m] F A R Q := by
  obtain ⟨T, hn, srt, hseen⟩ := hT
  have n60 := T.2.1
  rw [T.cHe] at hq
  have lp : ∀ (g i : Nat) (w6 : Vv), i + g = n → G X k m_X0_countHits Q 6 [vA 71, vI a, vI b, vI m, vI (ct (fun i => hP a b r m (A 72 i) (A 73 i)) i), vI i, w6] [] F A R := by
    intro g
    induction g with
    | zero =>
      intro i w6 hi
      have e : i = n := by omega
      subst e
      exact b_X0_countHits_6 hR ⟨fun _ => hq, fun h => absurd h (by rw [hn]; omega)⟩
    | succ g ih =>
      intro i w6 hi
      have cb := ct_b (fun i => hP a b r m (A 72 i) (A 73 i)) i
      have wb := T.2.2 i (by omega) (by omega)
      have go : ∀ w', ¬ hP a b r m (A 72 i) (A 73 i) = true → G X k m_X0_countHits Q 6 [vA 71, vI a, vI b, vI m, vI (ct (fun i => hP a b r m (A 72 i) (A 73 i)) i), vI ((i : Int) + 1), w'] [] F A R := fun w' hno => by
        have := ih (i + 1) w' (by omega)
        rw [ct_s, if_neg hno, show ∀ z : Int, z + 0 = z from fun z => by omega] at this
        exact this
      have go1 : ∀ w', hP a b r m (A 72 i) (A 73 i) = true → G X k m_X0_countHits Q 6 [vA 71, vI a, vI b, vI m, vI (ct (fun i => hP a b r m (A 72 i) (A 73 i)) i + 1), vI ((i : Int) + 1), w'] [] F A R := fun w' hy => by
        have := ih (i + 1) w' (by omega)
        rw [ct_s, if_pos hy] at this
        exact this
      refine b_X0_countHits_6 hR ⟨fun h => absurd (show (i : Int) < F 71 1 by rw [hn]; omega) h, fun _ => ⟨by omega, by omega, fun h1 => ⟨by omega, go _ (fun z => by have := hP_t.1 z; omega)⟩, fun h1 => ⟨fun h2 => ⟨by omega, go _ (fun z => by have := hP_t.1 z; omega)⟩, fun h2 => ⟨by omega, by omega, fun h3 => ⟨by omega, go _ (fun z => ?_)⟩, fun h3 => ⟨by omega, by omega, go1 _ (hP_t.2 ⟨by omega, by omega, ?_, ?_⟩)⟩⟩⟩⟩⟩
      · have := hP_t.1 z
        rw [h0] at h3
        split at h3 <;> omega
      · rw [h0] at h3
        split at h3 <;> omega
      · rw [h0] at h3
        split at h3 <;> omega
  exact Wp.of [vA 71, vI a, vI b, vI m, vN, vN, vN] rfl rfl rfl (b_X0_countHits_0 (lp n 0 vN (by omega)))
def HtI (c : Cf) (r : Int) (A : Fn2) : Prop := ∀ a b, 1 ≤ a → a ≤ b → b ≤ 99 → A (76 + a) b = mH c a b r
def BhI (c : Cf) (r : Int) (rows : Nat) (A : Fn2) : Prop := ∀ left : Nat, 1 ≤ left → left ≤ rows → ∀ a : Int, 1 ≤ a → a + left ≤ 100 → A (177 + left) a = bS c r left a
theorem BdT.e {c : Cf} {n : Nat} {F A F' A' : Fn2} (h : BdT c n F A) (h1 : F' 71 1 = F 71 1) (h2 : A' 72 = A 72) (h3 : A' 73 = A 73) (h4 : A' 74 = A 74) : BdT c n F' A' := by
  unfold BdT; rw [h1, h2, h3, h4]; exact h
theorem c_cbeh {X : Int × (Int → Int)} {k : Nat} {Q : Vv → Fn2 → Fn2 → Fn2 → Prop} {F A R : Fn2} {c : Cf} {n left : Nat} {r a : Int} (hR : RS R) (hT : BdT c n F A) (hH : HtI c r A) (hB : ∀ x : Int, 1 ≤ x → x + (left + 1 : Nat) ≤ 100 → A (177 + (left + 1 : Nat)) x = bS c r (left + 1) x) (h4 : left + 2 ≤ 4) (a0 : 1 ≤ a) (a1 : a + (left + 2 : Nat) ≤ 100) (hq : Q (vI (bS c r (left + 2) a)) F A R) : Wp X (k + 1) m_X0_countBehind [vA 71, vI (left + 2 : Nat), vI a] F A R Q := by
  have T := hT.1
  have hq' : Q (vI (mxr (fun to => mH c a to r + bS c r (left + 1) (to + 1)) a (99 - (left : Int) - a).toNat)) F A R := hq
  have lp : ∀ (g i : Nat), i + g = (99 - (left : Int) - a).toNat → G X k m_X0_countBehind Q 5 [vA 71, vI (left + 2 : Nat), vI a, vI (mxr (fun to => mH c a to r + bS c r (left + 1) (to + 1)) a i), vI (a + i)] [] F A R := by
    intro g
    induction g with
    | zero =>
      intro i hi
      refine b_X0_countBehind_5 hR ⟨by omega, fun _ => ?_, fun h => absurd (show 100 - ((left + 2 : Nat) : Int) < a + i by omega) h⟩
      rw [show i = (99 - (left : Int) - a).toNat by omega]; exact hq'
    | succ g ih =>
      intro i hi
      have e1 := hH a (a + i) a0 (by omega) (by omega)
      have e2 := hB (a + i + 1) (by omega) (by omega)
      have b1 := T.mH0 a (a + i) r
      have b2 := T.bS0 r (left + 1) (a + i + 1)
      have n60 := T.2.1
      have ez : (177 : Int) + (((left + 2 : Nat) : Int) - 1) = 177 + ((left + 1 : Nat) : Int) := by omega
      refine b_X0_countBehind_5 hR ⟨by omega, fun h => absurd h (by omega), fun _ => ⟨by omega, by omega, by omega, by omega, by omega, by omega, by omega, by omega, by omega, by omega, by rw [ez, e1, e2]; omega, fun g3 hg3 => ?_⟩⟩
      rw [ez, e1, e2] at hg3
      have e3 : g3 = mxr (fun to => mH c a to r + bS c r (left + 1) (to + 1)) a (i + 1) := by rw [hg3, mxr_s]
      rw [e3, show a + (i : Int) + 1 = a + ((i + 1 : Nat) : Int) by omega]
      exact ih (i + 1) (by omega)
  refine Wp.of [vA 71, vI (left + 2 : Nat), vI a, vN, vN] rfl rfl rfl (b_X0_countBehind_0 ?_)
  have := lp _ 0 (Nat.zero_add _)
  rw [show a + ((0 : Nat) : Int) = a by omega] at this
  exact this
abbrev FRw (A A' : Fn2) : Prop := ∀ z, z < 76 ∨ 181 < z → A' z = A z
theorem c_bweigh {X : Int × (Int → Int)} {k : Nat} {Q : Vv → Fn2 → Fn2 → Fn2 → Prop} {F A R : Fn2} {c : Cf} {n rows : Nat} {r : Int} (hR : RS R) (hT : BdT c n F A) (h3 : F 71 3 = rows) (w1 : 1 ≤ rows) (w4 : rows ≤ 4) (r0 : 0 ≤ r) (r1 : r ≤ 999) (hq : ∀ A', FRw A A' → HtI c r A' → BhI c r rows A' → Q vN F A' R) : Wp X (k + 2) m_X0_weigh [vA 71, vI r] F A R Q := by
  have T := hT.1
  have tk : ∀ A', FRw A A' → BdT c n F A' := fun A' h => hT.e rfl (h 72 (by decide)) (h 73 (by decide)) (h 74 (by decide))
  -- the rows behind
  have l150 : ∀ (left : Nat), left + 2 ≤ rows → (∀ A1, FRw A A1 → HtI c r A1 → BhI c r (left + 2) A1 → ∀ x3, G X (k + 1) m_X0_weigh Q 140 [vA 71, vI r, vI (((left + 2 : Nat) : Int) + 1), vI x3] [] F A1 R) → ∀ (g : Nat) (a : Int) (A1 : Fn2), FRw A A1 → HtI c r A1 → BhI c r (left + 1) A1 → 1 ≤ a → a + g = 99 - left → (∀ x : Int, 1 ≤ x → x < a → A1 (177 + (left + 2 : Nat)) x = bS c r (left + 2) x) → G X (k + 1) m_X0_weigh Q 150 [vA 71, vI r, vI (left + 2 : Nat), vI a] [] F A1 R := by
    intro left hl cont g
    induction g with
    | zero =>
      intro a A1 f1 hH hB a0 ag hx
      refine b_X0_weigh_150 hR ⟨by omega, fun _ => ⟨by omega, cont A1 f1 hH (fun lf l1 l2 x x0 x1 => ?_) a⟩, fun h => absurd (show 100 - ((left + 2 : Nat) : Int) < a by omega) h⟩
      by_cases e : lf = left + 2
      · subst e; exact hx x x0 (by omega)
      · exact hB lf l1 (by omega) x x0 x1
    | succ g ih =>
      intro a A1 f1 hH hB a0 ag hx
      refine b_X0_weigh_150 hR ⟨by omega, fun h => absurd h (by omega), fun _ => ⟨by omega, by omega, ?_⟩⟩
      have rw5 := row_176 (i := ((left + 2 : Nat) : Int)) (by omega) (by omega)
      refine c_cbeh (k := k) hR (tk A1 f1) hH (fun x x0 x1 => hB (left + 1) (by omega) (Nat.le_refl _) x x0 x1) (by omega) a0 (by omega) (b_X0_weigh_171 rw5.1 rw5.2 ⟨by omega, by omega, fun A2 hA2 => ⟨by omega, ?_⟩⟩)
      refine ih (a + 1) A2 (fun z hz => by rw [hA2, st2_n (by omega)]; exact f1 z hz) (fun x y x0 xy y1 => by rw [hA2, st2_n (by omega)]; exact hH x y x0 xy y1) (fun lf l1 l2 x x0 x1 => by rw [hA2, st2_n (by omega)]; exact hB lf l1 l2 x x0 x1) (by omega) (by omega) (fun x x0 x1 => ?_)
      rw [hA2, st2_s]
      by_cases e : x = a
      · subst e; rw [u1_s]
      · rw [u1_n e]; exact hx x x0 (by omega)
  have l140 : ∀ (g left : Nat) (A1 : Fn2) (w3 : Vv), 1 ≤ left → left + g = rows → FRw A A1 → HtI c r A1 → BhI c r left A1 → G X (k + 1) m_X0_weigh Q 140 [vA 71, vI r, vI (left + 1 : Nat), w3] [] F A1 R := by
    intro g
    induction g with
    | zero =>
      intro left A1 w3 l1 hl f1 hH hB
      have e : left = rows := by omega
      subst e
      exact b_X0_weigh_140 ⟨fun _ => hq A1 f1 hH hB, fun h => absurd (show F 71 3 < ((left + 1 : Nat) : Int) by rw [h3]; omega) h⟩
    | succ g ih =>
      intro left A1 w3 l1 hl f1 hH hB
      obtain ⟨lf, rfl⟩ : ∃ lf, left = lf + 1 := ⟨left - 1, by omega⟩
      refine b_X0_weigh_140 ⟨fun h => absurd h (by rw [h3]; omega), fun _ => ?_⟩
      exact l150 lf (by omega) (fun A2 f2 hH2 hB2 x3 => ih (lf + 2) A2 _ (by omega) (by omega) f2 hH2 hB2) (98 - lf) 1 A1 f1 hH hB (Int.le_refl 1) (by omega) (fun x x0 x1 => by omega)
  -- the first rows
  have l10 : ∀ (f : Nat), f + 1 ≤ 99 → (∀ A1, FRw A A1 → (∀ x y, (f : Int) + 1 ≤ x → x ≤ y → y ≤ 99 → A1 (76 + x) y = mH c x y r) → (∀ x, (f : Int) + 1 ≤ x → x ≤ 99 → A1 178 x = mH c x 99 r) → ∀ w3, G X (k + 1) m_X0_weigh Q 3 [vA 71, vI r, vI ((f + 1 : Nat) + -1), w3] [] F A1 R) → ∀ (g : Nat) (b : Int) (A1 : Fn2), FRw A A1 → (f : Int) + 1 ≤ b → b + g = 100 → (∀ x y, (f : Int) + 1 < x → x ≤ y → y ≤ 99 → A1 (76 + x) y = mH c x y r) → (∀ y, (f : Int) + 1 ≤ y → y < b → A1 (76 + (f + 1 : Nat)) y = mH c (f + 1 : Nat) y r) → (∀ x, (f : Int) + 1 < x → x ≤ 99 → A1 178 x = mH c x 99 r) → G X (k + 1) m_X0_weigh Q 10 [vA 71, vI r, vI (f + 1 : Nat), vI b] [] F A1 R := by
    intro f hf cont g
    induction g with
    | zero =>
      intro b A1 f1 b0 bg hx hy hz
      have eb : b = 100 := by omega
      subst eb
      refine b_X0_weigh_10 hR ⟨fun _ => ⟨by omega, by omega, by omega, fun A2 hA2 => ⟨by omega, cont A2 (fun z hz' => by rw [hA2, st2_n (by omega)]; exact f1 z hz') (fun x y x0 xy y1 => ?_) (fun x x0 x1 => ?_) _⟩⟩, fun h => absurd (show (99 : Int) < 100 by decide) h⟩
      · rw [hA2, st2_n (by omega)]
        by_cases e : x = ((f + 1 : Nat) : Int)
        · subst e; exact hy y (by omega) (by omega)
        · exact hx x y (by omega) xy y1
      · rw [hA2, show (178 : Int) = 177 + 1 from rfl, st2_s]
        by_cases e : x = ((f + 1 : Nat) : Int)
        · subst e; rw [u1_s]; exact hy 99 (by omega) (by omega)
        · rw [u1_n e]; exact hz x (by omega) x1
    | succ g ih =>
      intro b A1 f1 b0 bg hx hy hz
      have bt := tk A1 f1
      have hs := bt.2.2.2
      have nx : ∀ (A2 : Fn2) (v : Int), A2 = st2 A1 (76 + (f + 1 : Nat)) b v → v = mH c (f + 1 : Nat) b r → ((-2147483648 ≤ b + 1 ∧ b + 1 ≤ 2147483647) ∧ G X (k + 1) m_X0_weigh Q 10 [vA 71, vI r, vI (f + 1 : Nat), vI (b + 1)] [] F A2 R) := fun A2 v hA2 hv => by
        refine ⟨by omega, ih (b + 1) A2 (fun z hz' => by rw [hA2, st2_n (by omega)]; exact f1 z hz') (by omega) (by omega) (fun x y x0 xy y1 => by rw [hA2, st2_n (by omega)]; exact hx x y x0 xy y1) (fun y y0 y1 => ?_) (fun x x0 x1 => by rw [hA2, st2_n (by omega)]; exact hz x x0 x1)⟩
        rw [hA2, st2_s]
        by_cases e : y = b
        · subst e; rw [u1_s]; exact hv
        · rw [u1_n e]; exact hy y y0 (by omega)
      have r75 := row_75 (i := ((f + 1 : Nat) : Int)) (by omega) (by omega)
      have un : ∀ z : Int, 0 ≤ z → z ≤ 99 → A1 74 z = 0 → ∀ i : Int, 0 ≤ i → i < n → A1 72 i ≠ z := fun z z0 z1 hz0 i i0 i1 e => (hs z z0 z1).2 ⟨i, i0, i1, e⟩ hz0
      have g52 : (A1 74 ((f + 1 : Nat) : Int) = 0 ∨ A1 74 b = 0) → G X (k + 1) m_X0_weigh Q 52 [vA 71, vI r, vI (f + 1 : Nat), vI b] [] F A1 R := fun hz0 => by
        refine b_X0_weigh_52 hR ⟨fun hne => ⟨by omega, by omega, by omega, by omega, fun e0 => ⟨by omega, by omega, by omega, fun A3 hA3 => nx A3 _ hA3 ?_⟩, fun n0 => ⟨by omega, by omega, by omega, fun A5 hA5 => nx A5 _ hA5 ?_⟩⟩, fun heq => ⟨by omega, by omega, by omega, by omega, fun A8 hA8 => nx A8 _ hA8 ?_⟩⟩
        · rw [hy (b - 1) (by omega) (by omega)]
          exact bt.1.mHe (fun i i0 i1 => by have := un b (by omega) (by omega) e0 i i0 i1; omega)
        · have e0 : A1 74 ((f + 1 : Nat) : Int) = 0 := hz0.resolve_right n0
          rw [show (76 : Int) + (((f + 1 : Nat) : Int) + 1) = 76 + (((f + 1 : Nat) : Int) + 1) from rfl, hx (((f + 1 : Nat) : Int) + 1) b (by omega) (by omega) (by omega)]
          exact bt.1.mHe (fun i i0 i1 => by have := un _ (by omega) (by omega) e0 i i0 i1; omega)
        · have e0 : A1 74 b = 0 := by
            rcases hz0 with z | z
            · rw [← heq]; exact z
            · exact z
          exact (bt.1.mHz (fun i i0 i1 => by have := un b (by omega) (by omega) e0 i i0 i1; omega)).symm
      refine b_X0_weigh_10 hR ⟨fun h => absurd h (by omega), fun _ => ⟨by omega, by omega, fun e => g52 (Or.inl e), fun _ => ⟨by omega, by omega, fun e => g52 (Or.inr e), fun _ => ?_⟩⟩⟩
      refine c_cmost (k := k) hR bt r0 r1 (b_X0_weigh_48 r75.1 r75.2 ⟨by omega, by omega, fun A2 hA2 => nx A2 _ hA2 rfl⟩)
  have l3 : ∀ (f : Nat) (A1 : Fn2) (w3 : Vv), f ≤ 99 → FRw A A1 → (∀ x y, (f : Int) + 1 ≤ x → x ≤ y → y ≤ 99 → A1 (76 + x) y = mH c x y r) → (∀ x, (f : Int) + 1 ≤ x → x ≤ 99 → A1 178 x = mH c x 99 r) → G X (k + 1) m_X0_weigh Q 3 [vA 71, vI r, vI f, w3] [] F A1 R := by
    intro f
    induction f with
    | zero =>
      intro A1 w3 hf f1 hx hz
      refine b_X0_weigh_3 ⟨fun _ => l140 (rows - 1) 1 A1 w3 (Nat.le_refl 1) (by omega) f1 (fun x y x0 xy y1 => hx x y (by omega) xy y1) (fun lf l1 l2 x x0 x1 => ?_), fun h => absurd (show ((0 : Nat) : Int) < 1 by decide) h⟩
      have e : lf = 1 := by omega
      subst e
      exact hz x (by omega) (by omega)
    | succ f ih =>
      intro A1 w3 hf f1 hx hz
      refine b_X0_weigh_3 ⟨fun h => absurd h (by omega), fun _ => ?_⟩
      refine l10 f hf (fun A2 f2 hx2 hz2 w => ?_) (99 - f) (f + 1 : Nat) A1 f1 (by omega) (by omega) (fun x y x0 xy y1 => hx x y (by omega) xy y1) (fun y y0 y1 => by omega) (fun x x0 x1 => hz x (by omega) x1)
      rw [show ((f + 1 : Nat) : Int) + -1 = (f : Int) by omega]
      exact ih A2 w (by omega) f2 hx2 hz2
  refine Wp.of (k := k + 1) [vA 71, vI r, vN, vN] rfl rfl rfl (b_X0_weigh_0 ?_)
  exact l3 99 A vN (Nat.le_refl 99) (fun _ _ => rfl) (fun x y x0 xy y1 => by omega) (fun x x0 x1 => by omega)
