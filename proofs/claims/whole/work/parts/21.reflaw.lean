/-! THE REFERENCE'S LAWS: its code, its pile; the spring in bank b -/
def RPm (b : Int) (A : Fn2) : Fn2 := fun i r => if i = 0 then (if r = 0 then A 377 b else A 378 b) else if i = 1 then A 379 (8 * b + r) else if 3 ≤ i ∧ i ≤ 8 then A (377 + i) (8 * b + r) else if 9 ≤ i ∧ i ≤ 11 then A (377 + i) (4 * b + r) else 0
theorem RPm_8 {b r : Int} {A : Fn2} : RPm b A 8 r = A 385 (8 * b + r) := by simp [RPm]
theorem RPm_3 {b r : Int} {A : Fn2} : RPm b A 3 r = A 380 (8 * b + r) := by simp [RPm]
theorem RPm_4 {b r : Int} {A : Fn2} : RPm b A 4 r = A 381 (8 * b + r) := by simp [RPm]
theorem RPm_5 {b r : Int} {A : Fn2} : RPm b A 5 r = A 382 (8 * b + r) := by simp [RPm]
theorem RPm_6 {b r : Int} {A : Fn2} : RPm b A 6 r = A 383 (8 * b + r) := by simp [RPm]
theorem RPm_7 {b r : Int} {A : Fn2} : RPm b A 7 r = A 384 (8 * b + r) := by simp [RPm]
theorem RPm_1 {b r : Int} {A : Fn2} : RPm b A 1 r = A 379 (8 * b + r) := by simp [RPm]
theorem RPm_9 {b r : Int} {A : Fn2} : RPm b A 9 r = A 386 (4 * b + r) := by simp [RPm]
theorem RPm_10 {b r : Int} {A : Fn2} : RPm b A 10 r = A 387 (4 * b + r) := by simp [RPm]
theorem RPm_11 {b r : Int} {A : Fn2} : RPm b A 11 r = A 388 (4 * b + r) := by simp [RPm]
theorem RPm_0 {b : Int} {A : Fn2} : RPm b A 0 0 = A 377 b := by simp [RPm]
theorem RPm_01 {b : Int} {A : Fn2} : RPm b A 0 1 = A 378 b := by simp [RPm]
/-- other rows than the springs' leave it -/
theorem RPm_st {b : Int} {A A' : Fn2} (h : ∀ a, 377 ≤ a → a ≤ 388 → A' a = A a) : RPm b A' = RPm b A := by
  funext i r
  unfold RPm
  split
  · rw [h 377 (by omega) (by omega), h 378 (by omega) (by omega)]
  · split
    · rw [h 379 (by omega) (by omega)]
    · split
      · rw [h _ (by omega) (by omega)]
      · split
        · rw [h _ (by omega) (by omega)]
        · rfl
def abq (up W : Int → Int) (n : Nat) (u : Int) : Int := if u < 0 then 0 else W u + abv up W n u
theorem abv_s {up W : Int → Int} {n : Nat} {u : Int} : abv up W (n + 1) u = abq up W n (up u) := rfl
theorem abv_st {up W : Int → Int} {b : Int} (hu : ∀ r, 0 ≤ r → r < b → up r < r) : ∀ (n m : Nat) (r : Int), r < b → 0 ≤ r → r < n → r < m → abv up W n r = abv up W m r
  | 0, m, r, hb, h0, hn, hm => by omega
  | n + 1, 0, r, hb, h0, hn, hm => by omega
  | n + 1, m + 1, r, hb, h0, hn, hm => by
    unfold abv
    split
    · rfl
    · have := hu r h0 hb
      rw [abv_st hu n m (up r) (by omega) (by omega) (by omega) (by omega)]
theorem abv_0 {up W : Int → Int} {b : Int} (hu : ∀ r, 0 ≤ r → r < b → up r < r) (hW : ∀ r, 0 ≤ r → r < b → 0 ≤ W r ∧ W r ≤ 99) : ∀ (n : Nat) (r : Int), r < b → 0 ≤ r → 0 ≤ abv up W n r ∧ abv up W n r ≤ 99 * n
  | 0, r, hb, h0 => by simp [abv]
  | n + 1, r, hb, h0 => by
    unfold abv
    have h1 := hu r h0 hb
    split
    · omega
    · have := abv_0 hu hW n (up r) (by omega) (by omega)
      have := hW (up r) (by omega) (by omega)
      omega
/-- what stands while a second goes by in the reference -/
def RW (F A : Fn2) : Prop := (0 ≤ F 373 48 ∧ F 373 48 ≤ 4) ∧ WFP (RPm (F 373 48) A) ∧ ∀ r, 0 ≤ r → r < RPm (F 373 48) A 0 0 → 0 ≤ A 398 r ∧ A 398 r ≤ 99
theorem x_aboveL {X : Int × (Int → Int)} {k : Nat} {Q : Vv → Fn2 → Fn2 → Fn2 → Prop} {F A R : Fn2} {r : Int} (hR : RS R) (hw : RW F A) : ∀ (n : Nat) (u s : Int), u < n → u < RPm (F 373 48) A 0 0 → 0 ≤ s → s + 99 * n ≤ 10000 → Q (vI (s + abq (RPm (F 373 48) A 8) (A 398) n u)) F A R → G X k m_X11_aboveOf Q 17 [vA 373, vI r, vI s, vI u] [] F A R
  | 0, u, s, hu, hb, hs, hn, hq => by
    refine b_X11_aboveOf_17 hR ⟨fun _ => ?_, fun h => by omega⟩
    unfold abq at hq
    rw [if_pos (by omega)] at hq
    simpa using hq
  | n + 1, u, s, hu, hb, hs, hn, hq => by
    have hP := hw.2.1.1
    refine b_X11_aboveOf_17 hR ⟨fun hneg => ?_, fun hneg => ?_⟩
    · unfold abq at hq
      rw [if_pos hneg] at hq
      simpa using hq
    · have h1 := hw.2.2 u (by omega) hb
      have h2 := hw.2.1.2.1 u (by omega) hb
      have hw1 := hw.1
      refine ⟨by omega, by omega, by omega, fun g hg => ?_⟩
      subst hg
      refine ⟨by omega, by omega, by omega, by omega, fun g hg => ?_⟩
      subst hg
      unfold abq at hq
      rw [if_neg hneg, abv_s] at hq
      rw [← RPm_8 (A := A)]
      refine x_aboveL hR hw n _ _ (by omega) (by omega) (by omega) (by omega) ?_
      rw [Int.add_assoc]; exact hq
theorem x_above {X : Int × (Int → Int)} {k : Nat} {Q : Vv → Fn2 → Fn2 → Fn2 → Prop} {F A R : Fn2} {r : Int} (hR : RS R) (hw : RW F A) (h0 : 0 ≤ r) (hr : r < RPm (F 373 48) A 0 0) (hq : Q (vI (abv (RPm (F 373 48) A 8) (A 398) 8 r)) F A R) : Wp X (k + 1) m_X11_aboveOf [vA 373, vI r] F A R Q := by
  have hw1 := hw.1
  have hP := hw.2.1.1
  have h2 := hw.2.1.2.1 r h0 hr
  refine Wp.of [vA 373, vI r, vN, vN] rfl rfl rfl (b_X11_aboveOf_0 hR ⟨by omega, by omega, by omega, by omega, fun g hg => ?_⟩)
  subst hg
  rw [← RPm_8 (A := A)]
  refine x_aboveL hR hw 7 _ 0 (by omega) (by omega) (by omega) (by omega) ?_
  rw [Int.zero_add]
  exact hq
theorem x_warm {X : Int × (Int → Int)} {k : Nat} {Q : Vv → Fn2 → Fn2 → Fn2 → Prop} {F A R : Fn2} {w h : Int} (hw : 0 ≤ w) (hh : 0 ≤ h) (hq : Q (vI (wmf w h)) F A R) : Wp X (k + 1) m_X11_warmOf [vI w, vI h] F A R Q := by
  refine Wp.of [vI w, vI h] rfl rfl rfl (b_X11_warmOf_0 ?_)
  unfold wmf at hq
  refine ⟨fun h1 => ⟨hh, by omega, ?_⟩, fun h1 => ?_⟩
  · rwa [if_pos (by omega)] at hq
  · rwa [if_neg (by omega)] at hq
theorem w_warm {X : Int × (Int → Int)} {k : Nat} {Q : Vv → Fn2 → Fn2 → Fn2 → Prop} {F A R : Fn2} {w h : Int} (hh : 0 ≤ h) (hq : Q (vI (wmf w h)) F A R) : Wp X (k + 1) m_X10_warmOf [vI w, vI h] F A R Q := by
  refine Wp.of [vI w, vI h] rfl rfl rfl (b_X10_warmOf_0 ?_)
  unfold wmf at hq
  refine ⟨fun h1 => ?_, fun h1 => ⟨hh, by omega, ?_⟩⟩
  · rwa [if_neg (by omega)] at hq
  · rwa [if_pos (by omega)] at hq
/-- an instruction as the reference keeps it: a sign and a number -/
def rop (c x n : Int) : Prop := 0 ≤ c ∧ x = 110 ∧ n = c ∨ c = -3 ∧ x = 100 ∨ c = -17 ∧ x = 97 ∨ c = -18 ∧ x = 119 ∨ c = -19 ∧ x = 104 ∨ c = -16 ∧ x = 126 ∨ c = -15 ∧ x = 38 ∨ c = -14 ∧ x = 124 ∨ x = -c ∧ (c = -42 ∨ c = -43 ∨ c = -45 ∨ c = -47 ∨ c = -60 ∨ c = -61 ∨ c = -62)
def RCR (f g : Int → Int) : Int → List Int → Prop
  | _, [] => True
  | i, c :: cs => rop c (f i) (g i) ∧ RCR f g (i + 1) cs
theorem x_isLetter {X : Int × (Int → Int)} {k : Nat} {Q : Vv → Fn2 → Fn2 → Fn2 → Prop} {F A R : Fn2} {c : Int} (hq : Q (vI (if 97 ≤ c ∧ c ≤ 122 then 1 else 0)) F A R) : Wp X (k + 1) m_X11_isLetter [vI c] F A R Q := by
  refine Wp.of [vI c] rfl rfl rfl (b_X11_isLetter_0 ⟨fun h => ?_, fun h => ⟨fun h2 => ?_, fun h2 => ?_⟩⟩)
  · rwa [if_neg (by omega)] at hq
  · rwa [if_neg (by omega)] at hq
  · rwa [if_pos (by omega)] at hq
def RW2 (F A : Fn2) : Prop := RW F A ∧ ∀ r, 0 ≤ r → r < RPm (F 373 48) A 0 0 → 0 ≤ A 399 r
theorem RW.of {F A A' : Fn2} (h : RW F A) (h1 : ∀ a, 377 ≤ a → a ≤ 388 → A' a = A a) (h2 : A' 398 = A 398) : RW F A' := by
  obtain ⟨a, b, c⟩ := h
  have e := RPm_st (b := F 373 48) h1
  refine ⟨a, by rw [e]; exact b, ?_⟩
  rw [e, h2]; exact c
theorem x_term {X : Int × (Int → Int)} {k : Nat} {Q : Vv → Fn2 → Fn2 → Fn2 → Prop} {F A R : Fn2} {r c x n : Int} (hR : RS R) (hw : RW2 F A) (h0 : 0 ≤ r) (hr : r < RPm (F 373 48) A 0 0) (hc : rop c x n) (hp : 0 ≤ c ∨ isNm c) (hq : Q (vI (if 0 ≤ c then c else nmd (-c) (RPm (F 373 48) A 3 r) (abv (RPm (F 373 48) A 8) (A 398) 8 r) (A 398 r) (wmf (A 398 r) (A 399 r)))) F A R) : Wp X (k + 2) m_X11_term [vA 373, vI x, vI n, vI r] F A R Q := by
  have hw1 := hw.1.1
  have hP := hw.1.2.1.1
  have h2 := hw.1.2.2 r h0 hr
  have h3 := hw.2 r h0 hr
  unfold rop at hc
  unfold isNm at hp
  unfold nmd at hq
  refine Wp.of [vA 373, vI x, vI n, vI r] rfl rfl rfl (b_X11_term_0 hR ⟨fun e => ?_, fun e => ⟨fun e1 => ?_, fun e1 => ⟨fun e2 => ?_, fun e2 => ⟨fun e3 => ?_, fun e3 => ?_⟩⟩⟩⟩)
  · have : c = -3 := by omega
    subst this
    refine ⟨by omega, by omega, by omega, by omega, ?_⟩
    rw [← RPm_3 (A := A)]; simpa using hq
  · have : c = -19 := by omega
    subst this
    refine ⟨by omega, by omega, x_warm (by omega) h3 (b_X11_term_83 ?_)⟩
    simpa using hq
  · have : 0 ≤ c := by omega
    rw [if_pos this] at hq
    have : n = c := by omega
    rwa [this]
  · have : c = -18 := by omega
    subst this
    refine ⟨by omega, by omega, ?_⟩
    simpa using hq
  · have : c = -17 := by omega
    subst this
    refine x_above hR hw.1 h0 hr (b_X11_term_89 ?_)
    simpa using hq

theorem x_lawL {X : Int × (Int → Int)} {k : Nat} {Q : Vv → Fn2 → Fn2 → Fn2 → Prop} {F A R : Fn2} {r l lo hi d a w h : Int} (hR : RS R) (hw : RW2 F A) (h0 : 0 ≤ r) (hr : r < RPm (F 373 48) A 0 0) (hl0 : 0 ≤ l) (hl : l < 6) (he : A 391 l ≤ 1000)
    (ed : d = RPm (F 373 48) A 3 r) (ea : a = abv (RPm (F 373 48) A 8) (A 398) 8 r) (ew : w = A 398 r) (eh : h = wmf (A 398 r) (A 399 r)) (hlo : lo ≤ hi) : ∀ (cs : List Int) (st : List Int) (S : Int → Int) (i : Int) (w7 : Vv), 0 ≤ i → i + cs.length = A 391 l → RCR (A 392) (A 393) i cs → SR 0 S st → dps cs st.length = some 1 → (∀ c ∈ cs, isOp c) → st.length ≤ 40 →
    (∀ S', Q (vI (max lo (min hi ((evl d a w h cs st).headD 0)))) F (up2 A 396 S') R) → G X (k + 2) m_X11_law Q 11 [vA 373, vI l, vI r, vI lo, vI hi, vI st.length, vI i, w7] [] F (up2 A 396 S) R := by
  intro cs
  have n1 : (391 : Int) ≠ 396 := by decide
  have n2 : (392 : Int) ≠ 396 := by decide
  have n3 : (393 : Int) ≠ 396 := by decide
  induction cs with
  | nil =>
    intro st S i w8 hi0 he2 hc hs hd hop hn hq
    have h1 : st.length = 1 := by simpa [dps] using hd
    refine b_X11_law_11 hR ?_
    rw [up2_n n1, up2_s]
    simp at he2
    refine ⟨hl0, hl, fun _ => ?_, fun hx => by omega⟩
    match st, h1, hs, hq with
    | [x], _, hs, hq =>
      have := hs.1
      simp at this
      have hq := hq S
      simp [evl] at hq
      rw [this]
      refine ⟨fun a1 => ⟨fun a2 => ?_, fun a2 => ?_⟩, fun a1 => ?_⟩
      · have e : max lo (min hi x) = x := by omega
        rwa [e] at hq
      · have e : max lo (min hi x) = hi := by omega
        rwa [e] at hq
      · have e : max lo (min hi x) = lo := by omega
        rwa [e] at hq
  | cons c cs ih =>
    intro st S i w8 hi0 he2 hc hs hd hop hn hq
    have hlen : ((c :: cs).length : Int) = cs.length + 1 := by simp
    refine b_X11_law_11 hR ?_
    rw [up2_n n1, up2_s, up2_n n2]
    have hop1 := hop c (by simp)
    have hop2 : ∀ x ∈ cs, isOp x := fun x hx => hop x (by simp [hx])
    refine ⟨hl0, hl, fun hx => by omega, fun _ => ⟨by omega, by omega, ?_⟩⟩
    intro g hg
    have hg := hg.symm
    subst hg
    have hd1 : ∃ m, dpo c st.length = some m ∧ dps cs m = some 1 := by
      simp only [dps] at hd
      split at hd
      · exact ⟨_, by assumption, hd⟩
      · cases hd
    obtain ⟨m, hm, hd2⟩ := hd1
    have hrop := hc.1
    have nx : ∀ (S' : Int → Int) (st' : List Int) (w8 : Vv), ev1 d a w h c st = st' → SR 0 S' st' → st'.length = m → m ≤ 40 → G X (k + 2) m_X11_law Q 11 [vA 373, vI l, vI r, vI lo, vI hi, vI st'.length, vI (i + 1), w8] [] F (up2 A 396 S') R := by
      intro S' st' w8 e1 hs' e2 e3
      refine ih st' S' (i + 1) w8 (by omega) (by omega) hc.2 hs' (by rw [e2]; exact hd2) hop2 (by omega) ?_
      subst e1; exact hq
    have hk : Y1.1 396 = 0 := by decide +kernel
    have hk2 : Y1.2.1 396 = 70 := by decide +kernel
    unfold dpo at hm
    by_cases c16 : c = -16
    · subst c16
      rw [if_pos rfl] at hm
      have e126 : A 392 i = 126 := by unfold rop at hrop; omega
      rw [e126]
      refine ⟨fun hx => absurd rfl hx, fun _ => ?_⟩
      match st, hm, hs, nx, hn with
      | x :: r', hm, hs, nx, hn =>
        have hl2 : ((x :: r').length : Int) = r'.length + 1 := by simp
        have hx := hs.1
        simp at hm
        have e7 : ((x :: r').length : Int) - 1 = r'.length := by omega
        rw [e7]
        have hx' : S (r'.length : Int) = x := by simpa using hx
        refine ⟨by simp at hn; omega, by omega, by simp at hn; omega, ?_⟩
        rw [hx']
        have fin : ∀ v w8, v = (if x = 0 then 1 else 0) → G X (k + 2) m_X11_law Q 11 [vA 373, vI l, vI r, vI lo, vI hi, vI ((x :: r').length : Int), vI (i + 1), w8] [] F (st2 (up2 A 396 S) 396 (r'.length : Int) v) R := by
          intro v w8 hv
          rw [up2_st2]
          have := nx (u1 S (r'.length : Int) v) (v :: r') w8 (by subst hv; simp [ev1]) (SR.push hs.2 (by omega)) (by simpa using hm) (by simp at hn; omega)
          simpa using this
        refine ⟨fun h0 => ?_, fun h0 => ?_⟩
        · intro g hg; subst hg; exact ⟨by omega, fin _ _ (by rw [if_neg h0])⟩
        · intro g hg; subst hg; exact ⟨by omega, fin _ _ (by rw [if_pos h0])⟩
    · rw [if_neg c16] at hm
      have e126 : A 392 i ≠ 126 := by unfold rop at hrop; unfold isOp at hop1; omega
      refine ⟨fun _ => ?_, fun hx => absurd hx e126⟩
      refine x_isLetter (b_X11_law_72 hR ?_)
      by_cases hp : 0 ≤ c ∨ isNm c
      · have hlet : 97 ≤ A 392 i ∧ A 392 i ≤ 122 := by unfold rop at hrop; unfold isNm at hp; omega
        rw [if_pos hlet]
        refine ⟨fun hx => by omega, fun _ => ⟨by omega, by omega, ?_⟩⟩
        rw [if_pos hp] at hm
        by_cases h40 : st.length < 40
        · rw [if_pos h40] at hm
          have hm : st.length + 1 = m := by simpa using hm
          rw [up2_n n3]
          have hw' : RW2 F (up2 A 396 S) := ⟨hw.1.of (fun a h1 h2 => by rw [up2_n (by omega)]) (by rw [up2_n (by decide)]), by
            rw [RPm_st (A' := up2 A 396 S) (A := A) (fun a h1 h2 => by rw [up2_n (by omega)]), up2_n (by decide)]; exact hw.2⟩
          have eP : RPm (F 373 48) (up2 A 396 S) = RPm (F 373 48) A := RPm_st (fun a h1 h2 => by rw [up2_n (by omega)])
          refine x_term (k := k) hR hw' h0 (by rw [eP]; exact hr) hrop hp ?_
          rw [eP, up2_n (by decide), up2_n (by decide), ← ed, ← ea, ← eh, ← ew]
          refine b_X11_law_95 hk hk2 ⟨by omega, by omega, fun g hg => ?_⟩
          subst hg
          refine ⟨by omega, by omega, ?_⟩
          rw [up2_st2]
          have := nx (u1 S (st.length : Int) (if 0 ≤ c then c else nmd (-c) d a w h)) ((if 0 ≤ c then c else nmd (-c) d a w h) :: st) (vI (A 392 i)) (by
            simp only [ev1, c16, if_false]
            by_cases h0 : 0 ≤ c
            · rw [if_pos h0, if_pos h0]
            · rw [if_neg h0, if_neg h0, if_pos (by rcases hp with hp | hp; exact absurd hp h0; exact hp)]) (SR.push hs (by omega)) (by simpa using hm) (by omega)
          simpa using this
        · rw [if_neg h40] at hm; cases hm
      · have hlet : ¬ (97 ≤ A 392 i ∧ A 392 i ≤ 122) := by unfold rop at hrop; unfold isNm at hp; omega
        rw [if_neg hlet]
        refine ⟨fun _ => ?_, fun hx => absurd rfl hx⟩
        rw [if_neg hp] at hm
        by_cases h2 : st.length < 2
        · rw [if_pos h2] at hm; cases hm
        · rw [if_neg h2] at hm
          match st, hm, hs, nx, hn, h2 with
          | [_], _, _, _, _, h2 => exact absurd (by simp) h2
          | y :: x :: r', hm, hs, nx, hn, h2 =>
            have e6 : (((y :: x :: r').length : Int)) = r'.length + 2 := by simp; omega
            have hy := hs.1
            have hx := hs.2.1
            simp at hy hx hm hn
            have e5 : (((y :: x :: r').length : Int) + (-1)) = (r'.length : Int) + 1 := by omega
            have e4 : (r'.length : Int) + 1 - 1 = r'.length := by omega
            rw [e5, e4, up2_s, hx, hy]
            refine ⟨by omega, by omega, by omega, by omega, by omega, by omega, ?_⟩
            refine w_two (c := -c) ?_ ?_
            · unfold rop at hrop; unfold isNm at hp; unfold isOp at hop1; omega
            · refine b_X11_law_134 hk hk2 ⟨by omega, by omega, fun g hg => ?_⟩
              subst hg
              refine ⟨by omega, ?_⟩
              rw [up2_st2]
              have := nx (u1 S (r'.length : Int) (wrt (-c) x y)) (wrt (-c) x y :: r') (vI (A 392 i)) (by simp only [ev1, c16, if_false]; rw [if_neg (fun q => hp (Or.inl q)), if_neg (fun q => hp (Or.inr q))]) (SR.push hs.2.2 (by omega)) (by simpa using hm) (by omega)
              simpa using this
/-- law i of the reference: row i of uFrom, uTo, hasE -/
def XL1 (A : Fn2) (i : Int) : Option (List Int) → Prop
  | none => A 397 i = 0
  | some cs => A 397 i ≠ 0 ∧ A 391 i ≤ 500 ∧ 0 ≤ A 390 i ∧ A 390 i + cs.length = A 391 i ∧ RCR (A 392) (A 393) (A 390 i) cs ∧ Wfc cs
def XLw (A : Fn2) (C : Nat → Option (List Int)) : Prop := XL1 A 0 (C 0) ∧ XL1 A 1 (C 1) ∧ XL1 A 2 (C 2)
theorem x_law {X : Int × (Int → Int)} {k : Nat} {Q : Vv → Fn2 → Fn2 → Fn2 → Prop} {F A R : Fn2} {r l lo hi : Int} {cs : List Int} (hR : RS R) (hw : RW2 F A) (h0 : 0 ≤ r) (hr : r < RPm (F 373 48) A 0 0) (hl0 : 0 ≤ l) (hl : l < 6) (hlo : lo ≤ hi) (hc : XL1 A l (some cs))
    (hq : ∀ S', Q (vI (max lo (min hi (evr (RPm (F 373 48) A 3 r) (abv (RPm (F 373 48) A 8) (A 398) 8 r) (A 398 r) (wmf (A 398 r) (A 399 r)) cs)))) F (up2 A 396 S') R) : Wp X (k + 3) m_X11_law [vA 373, vI l, vI r, vI lo, vI hi] F A R Q := by
  obtain ⟨c1, c2, c3, c4, c5, c6⟩ := hc
  refine Wp.of [vA 373, vI l, vI r, vI lo, vI hi, vN, vN, vN] rfl rfl rfl (b_X11_law_0 hR ⟨hl0, hl, fun g hg => ?_⟩)
  subst hg
  have := x_lawL (X := X) (k := k) (Q := Q) (F := F) (A := A) (r := r) (l := l) (lo := lo) (hi := hi) hR hw h0 hr hl0 hl (Int.le_trans c2 (by decide)) rfl rfl rfl rfl hlo cs [] (A 396) (A 390 l) vN c3 c4 c5 trivial c6.1 c6.2 (by simp) hq
  rw [up2_id] at this
  exact this
theorem x_boilOf {X : Int × (Int → Int)} {k : Nat} {Q : Vv → Fn2 → Fn2 → Fn2 → Prop} {F A R : Fn2} {r : Int} {C : Nat → Option (List Int)} (hR : RS R) (hw : RW2 F A) (h0 : 0 ≤ r) (hr : r < RPm (F 373 48) A 0 0) (hc : XLw A C)
    (hq : ∀ S', Q (vI (LwF C 0 (RPm (F 373 48) A 3 r) (abv (RPm (F 373 48) A 8) (A 398) 8 r) (A 398 r) (wmf (A 398 r) (A 399 r)))) F (up2 A 396 S') R) : Wp X (k + 4) m_X11_boilOf [vA 373, vI r] F A R Q := by
  have h1 := hc.1
  have hP := hw.1.2.1
  have ha := abv_0 (up := RPm (F 373 48) A 8) (W := A 398) (b := RPm (F 373 48) A 0 0) (fun r a b => by have := hP.2.1 r a b; omega) hw.1.2.2 8 r hr h0
  refine Wp.of [vA 373, vI r] rfl rfl rfl (b_X11_boilOf_0 hR ⟨fun e => ?_, fun e => ?_⟩)
  · refine x_above hR hw.1 h0 hr (b_X11_boilOf_29 ⟨by omega, ?_⟩)
    have := hq (A 396)
    rw [up2_id] at this
    cases ec : C 0 with
    | none => 
      simp only [LwF, lawV, ec] at this
      have e2 : ∀ z : Int, 0 ≤ z → z ≤ 792 → max 1 (min 999 (100 + z)) = 100 + z := by intro z; omega
      rwa [e2 _ ha.1 (by omega)] at this
    | some cs => rw [ec] at h1; exact absurd e h1.1
  · cases ec : C 0 with
    | none => rw [ec] at h1; exact absurd h1 e
    | some cs =>
      rw [ec] at h1
      refine x_law hR hw h0 hr (by omega) (by omega) (by omega) h1 fun S' => b_X11_boilOf_19 ?_
      simpa [LwF, lawV, ec] using hq S'
