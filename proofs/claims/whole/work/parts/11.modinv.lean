/-! WHAT A SECOND KEEPS: water within the rooms, warmth bounded by a potential -/
def sm (f : Int → Int) : Nat → Int
  | 0 => 0
  | n + 1 => sm f n + f n
theorem sm_u1 {f : Int → Int} {i v : Int} : ∀ n : Nat, 0 ≤ i → i < n → sm (u1 f i v) n = sm f n - f i + v
  | 0, h0, h => by omega
  | n + 1, h0, h => by
    by_cases e : i = n
    · subst e
      have : ∀ m : Nat, (m : Int) ≤ n → sm (u1 f n v) m = sm f m := by
        intro m; induction m with
        | zero => intro _; rfl
        | succ m ih =>
          intro hm
          have h1 : (m : Int) ≠ n := by omega
          unfold sm; rw [ih (by omega), u1_n h1]
      unfold sm; rw [this n (by omega), u1_s]; omega
    · have h1 : (n : Int) ≠ i := fun h => e h.symm
      unfold sm; rw [sm_u1 n h0 (by omega), u1_n h1]; omega
theorem sm_le {f : Int → Int} (hf : ∀ i, 0 ≤ f i) : ∀ (n : Nat) (i : Int), 0 ≤ i → i < n → f i ≤ sm f n
  | 0, i, h0, h => by omega
  | n + 1, i, h0, h => by
    have hs : ∀ m, 0 ≤ sm f m := by
      intro m; induction m with
      | zero => exact Int.le_refl 0
      | succ m ih => unfold sm; have := hf m; omega
    by_cases e : i = n
    · subst e; unfold sm; have := hs n; omega
    · have := sm_le hf n i h0 (by omega)
      unfold sm; have := hf n; omega
def pp (w h : Int) : Int := max 0 (h - 51 * w)
def pot (s : Fn2) : Int := sm (fun r => pp (s 0 r) (s 1 r)) 8
theorem pp_0 {w h : Int} : 0 ≤ pp w h := by unfold pp; omega
theorem pp_add {w h x y : Int} : pp (w + x) (h + y) ≤ pp w h + pp x y := by unfold pp; omega
theorem pot_u1 {s : Fn2} {r w h : Int} (h0 : 0 ≤ r) (h8 : r < 8) : pot (st2 (st2 s 0 r w) 1 r h) = pot s - pp (s 0 r) (s 1 r) + pp w h := by
  unfold pot
  have e : (fun x => pp ((st2 (st2 s 0 r w) 1 r h) 0 x) ((st2 (st2 s 0 r w) 1 r h) 1 x)) = u1 (fun x => pp (s 0 x) (s 1 x)) r (pp w h) := by
    funext x
    simp only [st2, up2, u1]
    by_cases hx : x = r
    · simp [hx, u1]
    · simp [hx, u1]
  rw [e, sm_u1 8 h0 h8]
theorem pot_9 {s : Fn2} {a i v : Int} (h : a ≠ 0) (h' : a ≠ 1) : pot (st2 s a i v) = pot s := by
  unfold pot
  rw [st2_n (Ne.symm h), st2_n (Ne.symm h')]
theorem pp_le {s : Fn2} {r : Int} (h0 : 0 ≤ r) (h8 : r < 8) : pp (s 0 r) (s 1 r) ≤ pot s :=
  sm_le (f := fun r => pp (s 0 r) (s 1 r)) (fun _ => pp_0) 8 r h0 h8
/-- a share and what stays have no more than the whole had -/
theorem pp_cut {w h n : Int} (hn : 0 ≤ n) (hw : n ≤ w) (hh : 0 ≤ h) : pp n (h * n / w) + pp (w - n) (h - h * n / w) ≤ pp w h := by
  by_cases hz : n = 0
  · subst hz
    have e : h * 0 / w = 0 := by simp
    rw [e]; unfold pp; simp
  have hw0 : 0 < w := by omega
  have h1 : h * n / w * w ≤ h * n := Int.ediv_mul_le _ (by omega)
  have h2 : h * n < h * n / w * w + w := by
    have := Int.lt_ediv_add_one_mul_self (h * n) hw0
    rw [Int.add_mul] at this; omega
  generalize h * n / w = q at h1 h2 ⊢
  have a1 : q - 51 * n ≤ max 0 (h - 51 * w) := by
    by_cases hT : 0 ≤ h - 51 * w
    · have : (q - 51 * n) * w ≤ (h - 51 * w) * w := by
        have e1 : (h - 51 * w) * n ≤ (h - 51 * w) * w := Int.mul_le_mul_of_nonneg_left hw hT
        have e2 : (q - 51 * n) * w ≤ (h - 51 * w) * n := by
          have e3 : (q - 51 * n) * w = q * w - 51 * (w * n) := by rw [Int.sub_mul, Int.mul_assoc, Int.mul_comm n w]
          have e4 : (h - 51 * w) * n = h * n - 51 * (w * n) := by rw [Int.sub_mul, Int.mul_assoc]
          omega
        omega
      have := Int.le_of_mul_le_mul_right this hw0
      omega
    · have e2 : (q - 51 * n) * w ≤ (h - 51 * w) * n := by
        have e3 : (q - 51 * n) * w = q * w - 51 * (w * n) := by rw [Int.sub_mul, Int.mul_assoc, Int.mul_comm n w]
        have e4 : (h - 51 * w) * n = h * n - 51 * (w * n) := by rw [Int.sub_mul, Int.mul_assoc]
        omega
      have e5 : (h - 51 * w) * n ≤ 0 * n := Int.mul_le_mul_of_nonneg_right (by omega) hn
      have e6 : (q - 51 * n) * w ≤ 0 * w := by omega
      have := Int.le_of_mul_le_mul_right e6 hw0
      omega
  have a2 : h - q - 51 * (w - n) ≤ max 0 (h - 51 * w) := by
    have e3 : (h - q - 51 * (w - n)) * w = h * w - q * w - 51 * ((w - n) * w) := by rw [Int.sub_mul, Int.sub_mul, Int.mul_assoc]
    have e4 : (h - 51 * w) * (w - n) = h * w - h * n - 51 * ((w - n) * w) := by rw [Int.sub_mul, Int.mul_sub, Int.mul_assoc, Int.mul_comm w (w - n)]
    have e5 : (h - q - 51 * (w - n)) * w < (h - 51 * w) * (w - n) + w := by omega
    by_cases hT : 0 ≤ h - 51 * w
    · have e6 : (h - 51 * w) * (w - n) ≤ (h - 51 * w) * w := Int.mul_le_mul_of_nonneg_left (by omega) hT
      have e7 : (h - q - 51 * (w - n)) * w < (h - 51 * w + 1) * w := by rw [Int.add_mul]; omega
      have := Int.lt_of_mul_lt_mul_right e7 (by omega)
      omega
    · have e6 : (h - 51 * w) * (w - n) ≤ 0 * (w - n) := Int.mul_le_mul_of_nonneg_right (by omega) (by omega)
      have e7 : (h - q - 51 * (w - n)) * w < 1 * w := by omega
      have := Int.lt_of_mul_lt_mul_right e7 (by omega)
      omega
  unfold pp
  by_cases b1 : q - 51 * n ≤ 0
  · omega
  · by_cases b2 : h - q - 51 * (w - n) ≤ 0 <;> omega
def WFP (P : Fn2) : Prop := (0 ≤ P 0 0 ∧ P 0 0 ≤ 8 ∧ 0 ≤ P 0 1 ∧ P 0 1 ≤ 4) ∧ (∀ r, 0 ≤ r → r < P 0 0 → 1 ≤ P 4 r ∧ P 4 r ≤ 99 ∧ 0 ≤ P 6 r ∧ P 6 r ≤ 999 ∧ 0 ≤ P 7 r ∧ P 7 r ≤ 30 ∧ -2 ≤ P 8 r ∧ P 8 r < r ∧ 0 ≤ P 5 r ∧ P 5 r ≤ 30 ∧ 0 ≤ P 3 r ∧ P 3 r ≤ 60) ∧ ∀ j, 0 ≤ j → j < P 0 1 → 0 ≤ P 9 j ∧ P 9 j < P 0 0 ∧ 0 ≤ P 10 j ∧ P 10 j < P 0 0 ∧ P 9 j ≠ P 10 j ∧ 0 ≤ P 11 j ∧ P 11 j ≤ 30
def WFL (L : Nat → Lw4) : Prop := ∀ a b c d, 1 ≤ L 0 a b c d ∧ L 0 a b c d ≤ 999 ∧ 0 ≤ L 1 a b c d ∧ L 1 a b c d ≤ 30 ∧ 0 ≤ L 2 a b c d ∧ L 2 a b c d ≤ 999
def Bs (P s : Fn2) : Prop := (∀ r, 0 ≤ r → r < 8 → 0 ≤ s 0 r ∧ 0 ≤ s 1 r ∧ (r < P 0 0 → s 0 r ≤ P 4 r) ∧ (P 0 0 ≤ r → s 0 r = 0 ∧ s 1 r = 0)) ∧ ∀ r, 0 ≤ r → r < P 0 0 → 0 ≤ s 2 r ∧ s 2 r ≤ 30 ∧ 0 ≤ s 3 r ∧ s 3 r ≤ 99
def Bk (t c a g : Int) (s : Fn2) : Prop := 0 ≤ s 9 15 ∧ s 9 15 ≤ t ∧ 0 ≤ s 9 16 ∧ s 9 16 ≤ c ∧ 0 ≤ s 9 17 ∧ s 9 17 ≤ a ∧ 0 ≤ s 9 18 ∧ s 9 18 ≤ g
def Iv (P : Fn2) (K t c a g : Int) (s : Fn2) : Prop := Bs P s ∧ pot s ≤ K ∧ Bk t c a g s
theorem Iv.mono {P s : Fn2} {K t c a g K' t' c' a' g' : Int} (h : Iv P K t c a g s) (h1 : K ≤ K') (h2 : t ≤ t') (h3 : c ≤ c') (h4 : a ≤ a') (h5 : g ≤ g') : Iv P K' t' c' a' g' s := by
  obtain ⟨hb, hp, hk⟩ := h
  refine ⟨hb, by omega, ?_⟩
  unfold Bk at hk ⊢; omega
/-- how warm a room is at most -/
theorem Iv.hot {P s : Fn2} {K t c a g r : Int} (hP : WFP P) (h : Iv P K t c a g s) (h0 : 0 ≤ r) (h8 : r < 8) : s 1 r ≤ K + 5049 := by
  have h1 := pp_le (s := s) h0 h8
  have h2 := h.2.1
  obtain ⟨a1, a2, a3, a4⟩ := h.1.1 r h0 h8
  have := hP.1
  by_cases hr : r < P 0 0
  · have := (hP.2.1 r h0 hr).2.1
    have := a3 hr
    unfold pp at h1; omega
  · have := a4 (by omega)
    have : 0 ≤ pp (s 0 r) (s 1 r) := pp_0
    omega
theorem Bs.put {P s : Fn2} {r w h : Int} (hb : Bs P s) (hr : r < P 0 0) (hw : 0 ≤ w) (hw' : w ≤ P 4 r) (hh : 0 ≤ h) : Bs P (st2 (st2 s 0 r w) 1 r h) := by
  refine ⟨fun x h0 h8 => ?_, fun x h0 h8 => ?_⟩
  · obtain ⟨a1, a2, a3, a4⟩ := hb.1 x h0 h8
    simp only [st2, up2, u1]
    by_cases e : x = r
    · subst e; simp [u1]; exact ⟨hw, hh, fun _ => hw', fun _ => by omega⟩
    · simp [e, u1]; exact ⟨a1, a2, a3, a4⟩
  · simpa [st2, up2] using hb.2 x h0 h8
theorem Bs.o9 {P s : Fn2} {i v : Int} (hb : Bs P s) : Bs P (st2 s 9 i v) := by
  refine ⟨fun x h0 h8 => ?_, fun x h0 h8 => ?_⟩
  · simpa [st2, up2] using hb.1 x h0 h8
  · simpa [st2, up2] using hb.2 x h0 h8
theorem Bk.o {t c a g : Int} {s : Fn2} {b i v : Int} (h : Bk t c a g s) (hb : b ≠ 9) : Bk t c a g (st2 s b i v) := by
  unfold Bk at h ⊢; rw [st2_n (Ne.symm hb)]; exact h
theorem Iv.put {P s : Fn2} {K t c a g r w h : Int} (hI : Iv P K t c a g s) (hP : WFP P) (h0 : 0 ≤ r) (hr : r < P 0 0) (hw : 0 ≤ w) (hw' : w ≤ P 4 r) (hh : 0 ≤ h) : Iv P (K - pp (s 0 r) (s 1 r) + pp w h) t c a g (st2 (st2 s 0 r w) 1 r h) := by
  obtain ⟨hb, hp, hk⟩ := hI
  refine ⟨hb.put hr hw hw' hh, ?_, (hk.o (by decide)).o (by decide)⟩
  rw [pot_u1 h0 (by have := hP.1; omega)]; omega
theorem Iv.tk {P s : Fn2} {K t c a g r n : Int} (hI : Iv P K t c a g s) (hP : WFP P) (h0 : 0 ≤ r) (hr : r < P 0 0) (hn : 0 ≤ n) (hw : n ≤ s 0 r) : Iv P (K - pp n (s 1 r * n / s 0 r)) t c a g (tkS r n s) ∧ 0 ≤ s 1 r * n / s 0 r ∧ s 1 r * n / s 0 r ≤ s 1 r := by
  obtain ⟨a1, a2, a3, a4⟩ := hI.1.1 r h0 (by have := hP.1; omega)
  have b1 : 0 ≤ s 1 r * n / s 0 r := Int.ediv_nonneg (Int.mul_nonneg a2 hn) a1
  have b2 : s 1 r * n / s 0 r ≤ s 1 r := by
    by_cases hz : s 0 r = 0
    · rw [hz]; simp; exact a2
    · refine Int.ediv_le_of_le_mul (by omega) ?_
      exact Int.mul_le_mul_of_nonneg_left hw a2
  refine ⟨?_, b1, b2⟩
  have := Iv.put (w := s 0 r - n) (h := s 1 r - s 1 r * n / s 0 r) hI hP h0 hr (by omega) (by have := a3 hr; omega) (by omega)
  refine this.mono ?_ (Int.le_refl _) (Int.le_refl _) (Int.le_refl _) (Int.le_refl _)
  have := pp_cut hn hw a2
  omega
theorem Iv.gv {P s : Fn2} {K t c a g r w h : Int} (hI : Iv P K t c a g s) (hP : WFP P) (h0 : 0 ≤ r) (hr : r < P 0 0) (hw : 0 ≤ w) (hw' : s 0 r + w ≤ P 4 r) (hh : 0 ≤ h) : Iv P (K + pp w h) t c a g (gvS r w h s) := by
  obtain ⟨a1, a2, a3, a4⟩ := hI.1.1 r h0 (by have := hP.1; omega)
  have := Iv.put (w := s 0 r + w) (h := s 1 r + h) hI hP h0 hr (by omega) hw' (by omega)
  refine this.mono ?_ (Int.le_refl _) (Int.le_refl _) (Int.le_refl _) (Int.le_refl _)
  have := pp_add (w := s 0 r) (h := s 1 r) (x := w) (y := h)
  omega
theorem Iv.fill {P s : Fn2} {K t c a g cw r : Int} {Cl : Int → Int} (hI : Iv P K t c a g s) (hP : WFP P) (hc : 0 ≤ cw) (hc' : cw ≤ 99) (h0 : 0 ≤ r) (hr : r < P 0 0) (hC : 0 ≤ Cl r) : Iv P (K + 2439) t (c + 30) a g (fillS P cw Cl r s) := by
  obtain ⟨a1, a2, a3, a4⟩ := hI.1.1 r h0 (by have := hP.1; omega)
  obtain ⟨p1, p2, p3, p4, p5, p6, -⟩ := hP.2.1 r h0 hr
  have a3 := a3 hr
  unfold fillS
  have hg0 : 0 ≤ min (P 7 r) (P 4 r - s 0 r) := by omega
  have hg1 : min (P 7 r) (P 4 r - s 0 r) ≤ 30 := by omega
  have hg2 : s 0 r + min (P 7 r) (P 4 r - s 0 r) ≤ P 4 r := by omega
  generalize min (P 7 r) (P 4 r - s 0 r) = n at *
  have e1 : n * cw ≤ n * 99 := Int.mul_le_mul_of_nonneg_left hc' hg0
  have e0 : 0 ≤ n * cw := Int.mul_nonneg hg0 hc
  generalize n * cw = m at *
  have e2 : (if 0 < s 0 r + n then P 6 r else 0) ≤ 999 ∧ 0 ≤ (if 0 < s 0 r + n then P 6 r else 0) := by split <;> omega
  generalize (if 0 < s 0 r + n then P 6 r else 0) = x at *
  have := Iv.put (w := s 0 r + n) (h := max 0 (s 1 r + m + x - Cl r)) hI hP h0 hr (by omega) hg2 (by omega)
  obtain ⟨b1, b2, b3⟩ := this
  refine ⟨b1.o9, ?_, ?_⟩
  · rw [pot_9 (by decide) (by decide)]
    unfold pp at b2
    omega
  · have e : s 9 = (st2 (st2 s 0 r (s 0 r + n)) 1 r (max 0 (s 1 r + m + x - Cl r))) 9 := by
      rw [st2_n (by decide), st2_n (by decide)]
    unfold Bk at b3 ⊢
    rw [← e] at b3
    rw [st2_s, ← e]
    simp only [u1]
    simp
    omega
theorem jn_ab {P s : Fn2} {j : Int} : (jnA P j s = P 9 j ∧ jnB P j s = P 10 j ∨ jnA P j s = P 10 j ∧ jnB P j s = P 9 j) ∧ s 0 (jnB P j s) ≤ s 0 (jnA P j s) := by
  unfold jnA jnB
  by_cases h : s 0 (P 9 j) > s 0 (P 10 j)
  · simp only [h, if_true]; exact ⟨Or.inl ⟨trivial, trivial⟩, by omega⟩
  · simp only [h, if_false]; exact ⟨Or.inr ⟨trivial, trivial⟩, by omega⟩
theorem tkS_o {a n r : Int} {s : Fn2} (h : r ≠ a) : tkS a n s 0 r = s 0 r ∧ tkS a n s 1 r = s 1 r := by
  unfold tkS; simp [st2, up2, u1, h]
theorem tkS_r {a n x : Int} {s : Fn2} (h : x ≠ 0) (h' : x ≠ 1) : tkS a n s x = s x := by
  unfold tkS; rw [st2_n h', st2_n h]
theorem gvS_r {a w h x : Int} {s : Fn2} (h0 : x ≠ 0) (h' : x ≠ 1) : gvS a w h s x = s x := by
  unfold gvS; rw [st2_n h', st2_n h0]
theorem tk_0 {a : Int} {s : Fn2} : tkS a 0 s = s := by
  unfold tkS
  rw [Int.mul_zero, Int.zero_ediv, Int.sub_zero, Int.sub_zero, st2_self, st2_self]
theorem gv_0 {a : Int} {s : Fn2} : gvS a 0 0 s = s := by
  unfold gvS
  rw [Int.add_zero, Int.add_zero, st2_self, st2_self]
theorem Iv.join {P s : Fn2} {K t c a g j : Int} (hI : Iv P K t c a g s) (hP : WFP P) (h0 : 0 ≤ j) (hj : j < P 0 1) : Iv P K t c a g (joinS P j s) := by
  obtain ⟨p1, p2, p3, p4, p5, p6, p7⟩ := hP.2.2 j h0 hj
  obtain ⟨hab, hle⟩ := jn_ab (P := P) (s := s) (j := j)
  unfold joinS
  dsimp only
  have ha : 0 ≤ jnA P j s ∧ jnA P j s < P 0 0 ∧ 0 ≤ jnB P j s ∧ jnB P j s < P 0 0 ∧ jnB P j s ≠ jnA P j s := by
    rcases hab with ⟨e1, e2⟩ | ⟨e1, e2⟩ <;> rw [e1, e2] <;> omega
  generalize jnA P j s = x at *
  generalize jnB P j s = y at *
  obtain ⟨q1, q2, q3, q4, q5⟩ := ha
  obtain ⟨a1, a2, a3, a4⟩ := hI.1.1 x q1 (by have := hP.1; omega)
  obtain ⟨b1, b2, b3, b4⟩ := hI.1.1 y q3 (by have := hP.1; omega)
  have b3 := b3 q4
  have hn0 : 0 ≤ min (min ((s 0 x - s 0 y) / 2) (P 11 j)) (P 4 y - s 0 y) := by omega
  have hn1 : min (min ((s 0 x - s 0 y) / 2) (P 11 j)) (P 4 y - s 0 y) ≤ s 0 x := by omega
  have hn2 : s 0 y + min (min ((s 0 x - s 0 y) / 2) (P 11 j)) (P 4 y - s 0 y) ≤ P 4 y := by omega
  generalize min (min ((s 0 x - s 0 y) / 2) (P 11 j)) (P 4 y - s 0 y) = n at *
  obtain ⟨c1, c2, c3⟩ := hI.tk hP q1 q2 hn0 hn1
  have := c1.gv (r := y) (w := n) (h := s 1 x * n / s 0 x) hP q3 q4 hn0 (by rw [(tkS_o q5).1]; exact hn2) c2
  exact this.mono (by omega) (Int.le_refl _) (Int.le_refl _) (Int.le_refl _) (Int.le_refl _)
theorem Iv.o9a {P s : Fn2} {K t c a g x y : Int} (h : Iv P K t c a g s) (hx : 0 ≤ x) : Iv P K (t + x) c (a + x) g (st2 (st2 s 9 15 (s 9 15 + x)) 9 17 (s 9 17 + x)) := by
  obtain ⟨hb, hp, hk⟩ := h
  refine ⟨hb.o9.o9, by rw [pot_9 (by decide) (by decide), pot_9 (by decide) (by decide)]; exact hp, ?_⟩
  unfold Bk at hk ⊢
  simp [st2, up2, u1]; omega
theorem Iv.o917 {P s : Fn2} {K t c a g x : Int} (h : Iv P K t c a g s) (hx : 0 ≤ x) : Iv P K t c (a + x) g (st2 s 9 17 (s 9 17 + x)) := by
  obtain ⟨hb, hp, hk⟩ := h
  refine ⟨hb.o9, by rw [pot_9 (by decide) (by decide)]; exact hp, ?_⟩
  unfold Bk at hk ⊢
  simp [st2, up2, u1]; omega
theorem Iv.o918 {P s : Fn2} {K t c a g x : Int} (h : Iv P K t c a g s) (hx : 0 ≤ x) : Iv P K t c a (g + x) (st2 s 9 18 (s 9 18 + x)) := by
  obtain ⟨hb, hp, hk⟩ := h
  refine ⟨hb.o9, by rw [pot_9 (by decide) (by decide)]; exact hp, ?_⟩
  unfold Bk at hk ⊢
  simp [st2, up2, u1]; omega
theorem Iv.o3 {P s : Fn2} {K t c a g u x : Int} (h : Iv P K t c a g s) (hx : 0 ≤ x) (hx' : x ≤ 99) : Iv P K t c a g (st2 s 3 u x) := by
  obtain ⟨hb, hp, hk⟩ := h
  refine ⟨⟨fun r h0 h8 => ?_, fun r h0 h8 => ?_⟩, by rw [pot_9 (by decide) (by decide)]; exact hp, hk.o (by decide)⟩
  · simpa [st2, up2] using hb.1 r h0 h8
  · have := hb.2 r h0 h8
    by_cases e : r = u
    · simp [st2, up2, u1, e] at this ⊢; omega
    · simpa [st2, up2, u1, e] using this
/-- what one step of the throwing has -/
theorem thr_u {P s : Fn2} {K t c a g u many : Int} (hI : Iv P K t c a g s) (hP : WFP P) (h0 : 0 ≤ u) (hu : u < P 0 0) (hm : 0 < many) :
    0 ≤ min (min many (s 0 u)) (s 2 u) ∧ min (min many (s 0 u)) (s 2 u) ≤ 30 ∧ min (min many (s 0 u)) (s 2 u) ≤ s 0 u := by
  obtain ⟨a1, a2, a3, a4⟩ := hI.1.1 u h0 (by have := hP.1; omega)
  have := hI.1.2 u h0 hu
  omega
theorem Iv.thr {P : Fn2} {K c g many : Int} (hP : WFP P) : ∀ (f : Nat) (u t a : Int) (s : Fn2), Iv P K t c a g s → u < P 0 0 → Iv P K (t + 30 * f) c (a + 30 * f) g (thrS P many f u s)
  | 0, u, t, a, s, hI, hu => by unfold thrS; simpa using hI
  | f + 1, u, t, a, s, hI, hu => by
    unfold thrS
    split
    · exact hI.mono (Int.le_refl _) (by omega) (Int.le_refl _) (by omega) (Int.le_refl _)
    · rename_i hc
      have h0 : 0 ≤ u := by omega
      have hm : 0 < many := by omega
      obtain ⟨g1, g2, g3⟩ := thr_u hI hP h0 hu hm
      obtain ⟨a1, a2, a3, a4⟩ := hI.1.1 u h0 (by have := hP.1; omega)
      obtain ⟨p1, p2, p3, p4, p5, p6, p7, p8, -⟩ := hP.2.1 u h0 hu
      have a3 := a3 hu
      have b := hI.1.2 u h0 hu
      have hI1 : Iv P K t c a g (st2 s 3 u (max (s 3 u) (min many (s 0 u)))) := hI.o3 (by omega) (by omega)
      dsimp only
      generalize hn : min (min many (s 0 u)) (s 2 u) = n at *
      have e0 : (st2 s 3 u (max (s 3 u) (min many (s 0 u)))) 0 u = s 0 u := by rw [st2_n (by decide)]
      have e1 : (st2 s 3 u (max (s 3 u) (min many (s 0 u)))) 1 u = s 1 u := by rw [st2_n (by decide)]
      obtain ⟨c1, c2, c3⟩ := hI1.tk hP h0 hu g1 (by rw [e0]; exact g3)
      rw [e0, e1] at c1 c2 c3
      generalize hq : s 1 u * n / s 0 u = q at *
      generalize htt : tkS u n (st2 s 3 u (max (s 3 u) (min many (s 0 u)))) = tt at *
      have hk : 0 ≤ (if P 8 u < 0 then 0 else min n (P 4 (P 8 u) - tt 0 (P 8 u))) ∧ (if P 8 u < 0 then 0 else min n (P 4 (P 8 u) - tt 0 (P 8 u))) ≤ n ∧ (¬ P 8 u < 0 → tt 0 (P 8 u) + (if P 8 u < 0 then 0 else min n (P 4 (P 8 u) - tt 0 (P 8 u))) ≤ P 4 (P 8 u)) ∧ (0 < (if P 8 u < 0 then 0 else min n (P 4 (P 8 u) - tt 0 (P 8 u))) → ¬ P 8 u < 0) := by
        by_cases hz : P 8 u < 0
        · rw [if_pos hz]; omega
        · rw [if_neg hz]
          have := (c1.1.1 (P 8 u) (by omega) (by have := hP.1; omega)).2.2.1 (by omega)
          omega
      generalize (if P 8 u < 0 then 0 else min n (P 4 (P 8 u) - tt 0 (P 8 u))) = k at *
      obtain ⟨k0, k1, k2, k3⟩ := hk
      have d1 := c1.o9a (x := n - k) (y := 0) (by omega)
      have d2 : (st2 (st2 tt 9 15 (tt 9 15 + (n - k))) 9 17 (tt 9 17 + (n - k))) 0 = tt 0 := by rw [st2_n (by decide), st2_n (by decide)]
      generalize htz : st2 (st2 tt 9 15 (tt 9 15 + (n - k))) 9 17 (tt 9 17 + (n - k)) = tz at *
      have key : Iv P K (t + 30) c (a + 30) g (if 0 < k then gvS (P 8 u) k (q * k / n) tz else tz) := by
        split
        · rename_i hk0
          have hz := k3 hk0
          have := d1.gv (r := P 8 u) (w := k) (h := q * k / n) hP (by omega) (by omega) k0 (by rw [d2]; exact k2 hz) (Int.ediv_nonneg (Int.mul_nonneg c2 k0) (by omega))
          refine this.mono ?_ (by omega) (Int.le_refl _) (by omega) (Int.le_refl _)
          have x1 := pp_cut (w := n) (h := q) (n := k) k0 k1 c2
          have x2 : 0 ≤ pp (n - k) (q - q * k / n) := pp_0
          omega
        · refine d1.mono ?_ (by omega) (Int.le_refl _) (by omega) (Int.le_refl _)
          have : 0 ≤ pp n q := pp_0
          omega
      have := Iv.thr (many := many) hP f (P 8 u) (t + 30) (a + 30) _ key (by omega)
      exact this.mono (Int.le_refl _) (by omega) (Int.le_refl _) (by omega) (Int.le_refl _)
theorem Iv.stm {P s : Fn2} {K t c a g r : Int} {Bl Lf St : Int → Int} (hI : Iv P K t c a g s) (hP : WFP P) (h0 : 0 ≤ r) (hr : r < P 0 0) (hB : 1 ≤ Bl r) (hS : 0 ≤ St r) : Iv P K (t + 240) c (a + 240) (g + 99) (stmS P Bl Lf St r s) := by
  obtain ⟨a1, a2, a3, a4⟩ := hI.1.1 r h0 (by have := hP.1; omega)
  obtain ⟨p1, p2, p3, p4, p5, p6, p7, p8, -⟩ := hP.2.1 r h0 hr
  have a3 := a3 hr
  unfold stmS
  dsimp only
  have g1 : 0 ≤ min (St r) (s 0 r) := by omega
  have g2 : min (St r) (s 0 r) ≤ s 0 r := by omega
  generalize min (St r) (s 0 r) = n at *
  have e1 : 51 * n ≤ (Bl r + 50) * n := Int.mul_le_mul_of_nonneg_right (by omega) g1
  have b := Iv.put (w := s 0 r - n) (h := max 0 (s 1 r - (Bl r + 50) * n)) hI hP h0 hr (by omega) (by omega) (by omega)
  have b := b.mono (K' := K) (by unfold pp; omega) (Int.le_refl _) (Int.le_refl _) (Int.le_refl _) (Int.le_refl _)
  have b := b.o918 (x := n) g1
  have e : s 9 18 = (st2 (st2 s 0 r (s 0 r - n)) 1 r (max 0 (s 1 r - (Bl r + 50) * n))) 9 18 := by rw [st2_n (by decide), st2_n (by decide)]
  rw [← e] at b
  have := Iv.thr (many := Lf r * n) hP 8 (P 8 r) t a _ b (by omega)
  exact this.mono (Int.le_refl _) (by omega) (Int.le_refl _) (by omega) (by omega)
theorem Iv.pool {P s : Fn2} {K t c a g r : Int} (hI : Iv P K t c a g s) (hP : WFP P) (h0 : 0 ≤ r) (hr : r < P 0 0) : Iv P K t c (a + 99) g (poolS P r s) := by
  obtain ⟨a1, a2, a3, a4⟩ := hI.1.1 r h0 (by have := hP.1; omega)
  obtain ⟨p1, p2, p3, p4, p5, p6, p7, p8, -⟩ := hP.2.1 r h0 hr
  have a3 := a3 hr
  unfold poolS
  split
  · rename_i hc
    obtain ⟨c1, c2, c3⟩ := hI.tk (n := s 0 r - P 4 r / 2) hP h0 hr (by omega) (by omega)
    have := c1.o917 (x := s 0 r - P 4 r / 2) (by omega)
    rw [tkS_r (by decide) (by decide)] at this
    refine this.mono ?_ (Int.le_refl _) (Int.le_refl _) (by omega) (Int.le_refl _)
    have : 0 ≤ pp (s 0 r - P 4 r / 2) (s 1 r * (s 0 r - P 4 r / 2) / s 0 r) := pp_0
    omega
  · exact hI.mono (Int.le_refl _) (Int.le_refl _) (Int.le_refl _) (by omega) (Int.le_refl _)
theorem Iv.led {P s : Fn2} {K t c a g lr lg : Int} (hI : Iv P K t c a g s) (hP : WFP P) (hl : 0 ≤ lg) : Iv P K t c a g (ledA P lr lg s) := by
  unfold ledA
  split
  · rename_i hc
    obtain ⟨a1, a2, a3, a4⟩ := hI.1.1 lr hc.1 (by have := hP.1; omega)
    refine (hI.tk (n := min lg (s 0 lr)) hP hc.1 hc.2 (by omega) (by omega)).1.mono ?_ (Int.le_refl _) (Int.le_refl _) (Int.le_refl _) (Int.le_refl _)
    have : 0 ≤ pp (min lg (s 0 lr)) (s 1 lr * min lg (s 0 lr) / s 0 lr) := pp_0
    omega
  · exact hI
theorem rms_e {P : Fn2} (hP : WFP P) : (rms P : Int) = P 0 0 := by unfold rms; have := hP.1; omega
theorem jns_e {P : Fn2} (hP : WFP P) : (jns P : Int) = P 0 1 := by unfold jns; have := hP.1; omega
theorem iv_fillA {P s : Fn2} {L : Nat → Lw4} {K t c a g cw : Int} (hI : Iv P K t c a g s) (hP : WFP P) (hL : WFL L) (hc : 0 ≤ cw) (hc' : cw ≤ 99) : Iv P (K + 19512) t (c + 240) a g (fillA P L cw s) := by
  unfold fillA
  have h8 := hP.1
  have := lp_inv (f := fillS P cw (lwAt (L 2) P s)) (fun i x => 0 ≤ i ∧ Iv P (K + 2439 * i) t (c + 30 * i) a g x) (b := P 0 0) (fun i x hi h => by
    have h2 := Iv.fill (r := i) (cw := cw) (Cl := lwAt (L 2) P s) h.2 hP hc hc' h.1 hi (hL _ _ _ _).2.2.2.2.1
    have h1 := h.1
    exact ⟨by omega, h2.mono (by omega) (Int.le_refl _) (by omega) (Int.le_refl _) (Int.le_refl _)⟩) (rms P) 0 s (by rw [rms_e hP]; omega) ⟨by omega, by simpa using hI⟩
  exact this.2.mono (by omega) (Int.le_refl _) (by omega) (Int.le_refl _) (Int.le_refl _)
theorem iv_joinA {P s : Fn2} {K t c a g jn : Int} (hI : Iv P K t c a g s) (hP : WFP P) : Iv P K t c a g (joinA P jn s) := by
  unfold joinA
  split
  · exact hI
  · have := lp_inv (f := joinS P) (fun i x => 0 ≤ i ∧ Iv P K t c a g x) (b := P 0 1) (fun i x hi h => ⟨by omega, h.2.join hP h.1 hi⟩) (jns P) 0 s (by rw [jns_e hP]; omega) ⟨by omega, hI⟩
    exact this.2
theorem stmR_0 {P s : Fn2} {K t c a g r : Int} {Bl : Int → Int} (hI : Iv P K t c a g s) (h0 : 0 ≤ r) (h8 : r < 8) : 0 ≤ stmR P Bl s r := by
  obtain ⟨a1, a2, a3, a4⟩ := hI.1.1 r h0 h8
  unfold stmR
  have : 0 ≤ max 0 (s 1 r - Bl r * s 0 r) / 50 := Int.ediv_nonneg (by omega) (by omega)
  omega
theorem iv_spoutA {P s : Fn2} {L : Nat → Lw4} {K t c a g : Int} (hI : Iv P K t c a g s) (hP : WFP P) (hL : WFL L) : Iv P K (t + 1920) c (a + 1920) (g + 792) (spoutA P L s) := by
  unfold spoutA
  have h8 := hP.1
  have e := rms_e hP
  have := lpd_inv (f := stmS P (lwAt (L 0) P s) (lwAt (L 1) P s) (stmR P (lwAt (L 0) P s) s)) (fun i x => Iv P K (t + 240 * (rms P - i)) c (a + 240 * (rms P - i)) (g + 99 * (rms P - i)) x) (rms P) s (fun i x hi h => by
    have := h.stm (r := i) (Bl := lwAt (L 0) P s) (Lf := lwAt (L 1) P s) (St := stmR P (lwAt (L 0) P s) s) hP (by omega) (by omega) (hL _ _ _ _).1 (stmR_0 hI (by omega) (by omega))
    exact this.mono (by omega) (by omega) (by omega) (by omega) (by omega)) (by
    simpa using hI)
  exact this.mono (by omega) (by omega) (by omega) (by omega) (by omega)
theorem iv_poolA {P s : Fn2} {K t c a g : Int} (hI : Iv P K t c a g s) (hP : WFP P) : Iv P K t c (a + 792) g (poolA P s) := by
  unfold poolA
  have h8 := hP.1
  have := lp_inv (f := poolS P) (fun i x => 0 ≤ i ∧ Iv P K t c (a + 99 * i) g x) (b := P 0 0) (fun i x hi h => ⟨by omega, (h.2.pool hP h.1 hi).mono (by omega) (by omega) (by omega) (by omega) (by omega)⟩) (rms P) 0 s (by rw [rms_e hP]; omega) ⟨by omega, by simpa using hI⟩
  exact this.2.mono (by omega) (by omega) (by omega) (by omega) (by omega)
theorem Iv.t0 {P s : Fn2} {K t c a g : Int} (h : Iv P K t c a g s) : Iv P K 0 c a g (st2 s 9 15 0) := by
  obtain ⟨hb, hp, hk⟩ := h
  refine ⟨hb.o9, by rw [pot_9 (by decide) (by decide)]; exact hp, ?_⟩
  unfold Bk at hk ⊢
  simp [st2, up2, u1]; omega
theorem iv_tick0 {P s : Fn2} {L : Nat → Lw4} {K t c a g cw jn : Int} (hI : Iv P K t c a g s) (hP : WFP P) (hL : WFL L) (hc : 0 ≤ cw) (hc' : cw ≤ 99) : Iv P (K + 19512) 1920 (c + 240) (a + 2712) (g + 792) (tick0 P L cw jn s) := by
  unfold tick0
  have h1 := iv_fillA hI.t0 hP hL hc hc'
  have h2 := iv_joinA (jn := jn) h1 hP
  have h3 := iv_spoutA h2 hP hL
  have h4 := iv_poolA h3 hP
  exact h4.mono (by omega) (by omega) (by omega) (by omega) (by omega)
theorem iv_tick {P s : Fn2} {L : Nat → Lw4} {K t c a g cw jn lr lg : Int} (hI : Iv P K t c a g s) (hP : WFP P) (hL : WFL L) (hc : 0 ≤ cw) (hc' : cw ≤ 99) (hl : 0 ≤ lg) : Iv P (K + 19512) 1920 (c + 240) (a + 2712) (g + 792) (tickA P L cw jn lr lg s) :=
  (iv_tick0 hI hP hL hc hc').led hP hl
