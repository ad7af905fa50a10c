/-! THE REFERENCE'S STEPS THROUGH A TEXT -/
/-- what reading leaves alone of 373's fields -/
def FX4 (F F' : Fn2) : Prop := ∀ a f, a ≠ 373 ∨ f < 4 ∨ 10 < f → F' a f = F a f
theorem FX4.refl {F : Fn2} : FX4 F F := fun _ _ _ => rfl
theorem FX4.trans {F F1 F2 : Fn2} (h : FX4 F F1) (h' : FX4 F1 F2) : FX4 F F2 := fun a f x => (h' a f x).trans (h a f x)
theorem FXt.x4 {F F' : Fn2} (h : FXt F F') : FX4 F F' := fun a f x => h a f (by omega)
theorem FX4.st {F F' : Fn2} {i v : Int} (h : F' = st2 F 373 i v) (hi : 4 ≤ i ∧ i ≤ 10) : FX4 F F' := fun a f x => st373 h a f (by omega)
/-- where reading stands: at p, all well and c to come, or a fault found -/
def Sa {α : Type} (fl : Int → Int → α) (g : Int → Int) (n p : Int) (rs : α) (c : α) (F : Fn2) : Prop := 0 ≤ p ∧ p ≤ n ∧ TkX g n p F ∧ (F 373 4 = 0 ∧ rs = c ∧ F 373 5 = -1 ∨ 0 < F 373 4 ∧ rs = fl (F 373 4) (F 373 5))
theorem TkX.e {g : Int → Int} {n p : Int} {F F' : Fn2} (h : TkX g n p F) (e : ∀ f, f = 3 ∨ 6 ≤ f ∧ f ≤ 10 → F' 373 f = F 373 f) : TkX g n p F' := by
  obtain ⟨h1, h2, h3, h4, h5, h6⟩ := h
  exact ⟨by rw [e 3 (by omega)]; exact h1, by rw [e 6 (by omega)]; exact h2, by rw [e 7 (by omega)]; exact h3, by rw [e 8 (by omega)]; exact h4, fun x => by rw [e 9 (by omega)]; exact h5 x, fun x => by rw [e 10 (by omega)]; exact h6 x⟩
theorem Sa.e {α : Type} {fl : Int → Int → α} {g : Int → Int} {n p : Int} {rs c : α} {F F' : Fn2} (h : Sa fl g n p rs c F) (e : ∀ f, 3 ≤ f ∧ f ≤ 10 → F' 373 f = F 373 f) : Sa fl g n p rs c F' := by
  obtain ⟨h1, h2, h3, h4⟩ := h
  refine ⟨h1, h2, h3.e (fun f hf => e f (by omega)), ?_⟩
  rw [e 4 (by omega), e 5 (by omega)]; exact h4
theorem x_good {X : Int × (Int → Int)} {k : Nat} {Q : Vv → Fn2 → Fn2 → Fn2 → Prop} {F A R : Fn2} (h1 : F 373 4 = 0 → Q (vI 1) F A R) (h0 : ¬ F 373 4 = 0 → Q (vI 0) F A R) : Wp X (k + 1) m_X11_isGood [vA 373] F A R Q :=
  Wp.of [vA 373] rfl rfl rfl (b_X11_isGood_0 ⟨h0, h1⟩)
theorem x_fails {X : Int × (Int → Int)} {k : Nat} {Q : Vv → Fn2 → Fn2 → Fn2 → Prop} {F A R : Fn2} {K p : Int} (h0 : F 373 4 = 0 → ∀ F', F' 373 4 = K → F' 373 5 = p → (∀ a f, a ≠ 373 ∨ f ≠ 4 ∧ f ≠ 5 → F' a f = F a f) → Q vN F' A R) (h1 : ¬ F 373 4 = 0 → Q vN F A R) (hg : 0 ≤ F 373 4) : Wp X (k + 1) m_X11_fails [vA 373, vI K, vI p] F A R Q := by
  refine Wp.of [vA 373, vI K, vI p] rfl rfl rfl (b_X11_fails_0 ⟨fun h F1 hF1 F2 hF2 => ?_, fun h => h1 (by omega)⟩)
  have x1 := st373 hF1
  have x2 := st373 hF2
  exact h0 (by omega) F2 (by rw [x2 373 4 (by omega), hF1, st2_s, u1_s]) (by rw [hF2, st2_s, u1_s]) (fun a f h => by rw [x2 a f (by omega), x1 a f (by omega)])
theorem FX4.f {F F' : Fn2} (h : ∀ a f, a ≠ 373 ∨ f ≠ 4 ∧ f ≠ 5 → F' a f = F a f) : FX4 F F' := fun a f x => h a f (by omega)
/-- a fault found: kind w, or 1 where the token is none -/
theorem x_wrong {X : Int × (Int → Int)} {k : Nat} {Q : Vv → Fn2 → Fn2 → Fn2 → Prop} {F A R : Fn2} {α : Type} {fl : Int → Int → α} {g : Int → Int} {n p : Int} {rs : α} (c : α) (hs : Sa fl g n p rs (rfs fl g n p 2) F) (hq : ∀ F', Sa fl g n p rs c F' → 0 < F' 373 4 → FX4 F F' → Q vN F' A R) : Wp X (k + 2) m_X11_wrong [vA 373] F A R Q := by
  obtain ⟨p0, p1, hk, hg⟩ := hs
  have hk' := hk
  obtain ⟨k1, k2, k3, k4, k5, k6⟩ := hk'
  have t1 : F 373 8 = 1 ↔ tK g n p = 21 := by
    rw [k4]; unfold tT
    split
    · omega
    · split
      · omega
      · split
        · omega
        · split
          · omega
          · split <;> omega
  have key : ∀ K, K = (if tK g n p = 21 then 1 else 2) → Wp X (k + 1) m_X11_fails [vA 373, vI K, vI (F 373 6)] F A R (fun v F A R => G X (k + 1) m_X11_wrong Q 21 [vA 373] [] F A R) := fun K hK => by
    refine x_fails (k := k) (fun h0 F' e1 e2 e3 => b_X11_wrong_21 ?_) (fun h0 => b_X11_wrong_21 ?_) (by omega)
    · refine hq F' ⟨p0, p1, hk.e (fun f hf => e3 373 f (by omega)), Or.inr ⟨by rw [e1, hK]; split <;> decide, ?_⟩⟩ (by rw [e1, hK]; split <;> decide) (FX4.f e3)
      rcases hg with ⟨_, hg, _⟩ | ⟨hg, _⟩
      · rw [hg, e1, e2, hK, k2]; rfl
      · omega
    · rcases hg with ⟨hg, _⟩ | hg
      · omega
      · exact hq F ⟨p0, p1, hk, Or.inr hg⟩ hg.1 FX4.refl
  refine Wp.of [vA 373] rfl rfl rfl (b_X11_wrong_0 ⟨fun h => key _ ?_, fun h => key _ ?_⟩)
  · rw [if_neg (fun z => h (t1.2 z))]
  · rw [if_pos (t1.1 h)]
theorem x_failsS {X : Int × (Int → Int)} {k : Nat} {Q : Vv → Fn2 → Fn2 → Fn2 → Prop} {F A R : Fn2} {α : Type} {fl : Int → Int → α} {g : Int → Int} {n p K : Int} {rs : α} (c : α) (hK : 0 < K) (hs : Sa fl g n p rs (fl K (tA g n p)) F) (hq : ∀ F', Sa fl g n p rs c F' → 0 < F' 373 4 → FX4 F F' → Q vN F' A R) : Wp X (k + 1) m_X11_fails [vA 373, vI K, vI (F 373 6)] F A R Q := by
  obtain ⟨p0, p1, hk, hg⟩ := hs
  refine x_fails (k := k) (fun h0 F' e1 e2 e3 => ?_) (fun h0 => ?_) (by omega)
  · refine hq F' ⟨p0, p1, hk.e (fun f hf => e3 373 f (by omega)), Or.inr ⟨by rw [e1]; exact hK, ?_⟩⟩ (by rw [e1]; exact hK) (FX4.f e3)
    rcases hg with ⟨_, hg, _⟩ | ⟨hg, _⟩
    · rw [hg, e1, e2, hk.2.1]
    · omega
  · rcases hg with ⟨hg, _⟩ | hg
    · omega
    · exact hq F ⟨p0, p1, hk, Or.inr hg⟩ hg.1 FX4.refl
theorem tT_3 {K : Int} (h : 0 ≤ K) : tT K = 3 ↔ K < 20 := by
  unfold tT
  split
  · omega
  · split
    · omega
    · split
      · omega
      · split
        · omega
        · split <;> omega
theorem tT_2 {K : Int} : tT K = 2 ↔ K = 23 := by
  unfold tT
  split
  · omega
  · split
    · omega
    · split
      · omega
      · split
        · omega
        · split <;> omega
theorem tT_4 {K : Int} : tT K = 4 ↔ K = 22 := by
  unfold tT
  split
  · omega
  · split
    · omega
    · split
      · omega
      · split
        · omega
        · split <;> omega
theorem tT_0 {K : Int} : tT K = 0 ↔ K = 20 := by
  unfold tT
  split
  · omega
  · split
    · omega
    · split
      · omega
      · split
        · omega
        · split <;> omega
theorem tT_5 {K : Int} : tT K = 5 ↔ 23 < K := by
  unfold tT
  split
  · omega
  · split
    · omega
    · split
      · omega
      · split
        · omega
        · split <;> omega
/-- a word's kind is its place; a sign's kind is the sign -/
theorem tK_w {g : Int → Int} {n p : Int} (h : tK g n p < 20) : tK g n p = look WT 0 (tW g n p) := by
  have h' := h
  unfold tK at h
  unfold tK
  by_cases h1 : tA g n p < n
  · rw [if_pos h1] at h ⊢
    by_cases h2 : bL (g (tA g n p)) = true
    · rw [if_pos h2] at h ⊢
      by_cases h3 : 8 < tE g n p - tA g n p
      · rw [if_pos h3] at h; omega
      · rw [if_neg h3]
    · rw [if_neg h2] at h
      split at h
      · split at h <;> omega
      · split at h <;> omega
  · rw [if_neg h1] at h; omega
theorem tK_s {g : Int → Int} {n p : Int} (h : 23 < tK g n p) : tK g n p = g (tA g n p) ∧ tA g n p < n := by
  unfold tK at h ⊢
  by_cases h1 : tA g n p < n
  · rw [if_pos h1] at h ⊢
    by_cases h2 : bL (g (tA g n p)) = true
    · rw [if_pos h2] at h
      have := look_b WT 0 (tW g n p)
      have l : WT.length = 20 := rfl
      split at h <;> omega
    · rw [if_neg h2] at h ⊢
      by_cases h3 : bD (g (tA g n p)) = true
      · rw [if_pos h3] at h; split at h <;> omega
      · rw [if_neg h3] at h ⊢
        by_cases h4 : isS (g (tA g n p))
        · rw [if_pos h4]; exact ⟨rfl, h1⟩
        · rw [if_neg h4] at h; omega
  · rw [if_neg h1] at h; omega
theorem tK_0 {g : Int → Int} {n p : Int} : 0 ≤ tK g n p := by
  have := look_b WT 0 (tW g n p)
  unfold tK
  by_cases h1 : tA g n p < n
  · rw [if_pos h1]
    by_cases h2 : bL (g (tA g n p)) = true
    · rw [if_pos h2]; split <;> omega
    · rw [if_neg h2]
      by_cases h3 : bD (g (tA g n p)) = true
      · rw [if_pos h3]; split <;> omega
      · rw [if_neg h3]; split <;> omega
  · rw [if_neg h1]; decide
theorem x_isWord {X : Int × (Int → Int)} {k : Nat} {Q : Vv → Fn2 → Fn2 → Fn2 → Prop} {F A R : Fn2} {g : Int → Int} {n p W : Int} (j : Nat) (hk : TkX g n p F) (hj : j < 20) (hW : KL.getD j 0 = W) (h1 : tK g n p = j → Q (vI 1) F A R) (h0 : ¬ tK g n p = j → Q (vI 0) F A R) : Wp X (k + 1) m_X11_isWord [vA 373, vL W] F A R Q := by
  obtain ⟨k1, k2, k3, k4, k5, k6⟩ := hk
  refine Wp.of [vA 373, vL W, vN] rfl rfl rfl (b_X11_isWord_0 ?_)
  rw [k4, tT_3 tK_0]
  refine ⟨fun h => h0 (by omega), fun h => ?_⟩
  rw [k6 (Or.inr h), lcmp_0, ← hW, ← look_num (tW_l (Or.inr h)) j hj, ← tK_w h]
  exact ⟨h0, h1⟩
theorem x_is {X : Int × (Int → Int)} {k : Nat} {Q : Vv → Fn2 → Fn2 → Fn2 → Prop} {F A R : Fn2} {g : Int → Int} {n p c : Int} (ht : TxX g n A R) (hp : 0 ≤ p) (hpn : p ≤ n) (hk : TkX g n p F) (hc : 23 < c) (h1 : tK g n p = c → Q (vI 1) F A R) (h0 : ¬ tK g n p = c → Q (vI 0) F A R) : Wp X (k + 2) m_X11_is [vA 373, vI c] F A R Q := by
  have hA := tA_b (g := g) hpn
  obtain ⟨k1, k2, k3, k4, k5, k6⟩ := id hk
  refine Wp.of [vA 373, vI c] rfl rfl rfl (b_X11_is_0 ?_)
  rw [k4, tT_5]
  refine ⟨fun h => h0 (by omega), fun h => x_sgn (k := k) ht k1 (by omega) (b_X11_is_16 ?_)⟩
  have s := tK_s h
  rw [k2]
  unfold gz
  rw [if_pos s.2, ← s.1]
  exact ⟨h0, h1⟩
theorem Sa.next {X : Int × (Int → Int)} {k : Nat} {Q : Vv → Fn2 → Fn2 → Fn2 → Prop} {F A R : Fn2} {α : Type} {fl : Int → Int → α} {g : Int → Int} {n p : Int} {rs c : α} (ht : TxX g n A R) (hs : Sa fl g n p rs c F) (hg : F 373 4 = 0) (hq : ∀ F', Sa fl g n (tE g n p) rs c F' → F' 373 4 = 0 → FXt F F' → Q vN F' A R) : Wp X (k + 2) m_X11_next [vA 373] F A R Q := by
  obtain ⟨p0, p1, hk, h⟩ := hs
  have a := tA_b (g := g) p1
  have e := tE_b (g := g) p1
  refine x_next (k := k) ht (by omega) e.2.1 hk.1 hk.2.2.1 (fun F' h1 h2 => hq F' ⟨by omega, e.2.1, h1, ?_⟩ (by rw [h2 373 4 (by omega), hg]) h2)
  rw [h2 373 4 (by omega), h2 373 5 (by omega)]; exact h
/-- reading's frame, and: a fault stays -/
def FG4 (F F' : Fn2) : Prop := FX4 F F' ∧ (F' 373 4 = 0 → F 373 4 = 0)
theorem FG4.refl {F : Fn2} : FG4 F F := ⟨FX4.refl, id⟩
theorem FG4.trans {F F1 F2 : Fn2} (h : FG4 F F1) (h' : FG4 F1 F2) : FG4 F F2 := ⟨h.1.trans h'.1, fun x => h.2 (h'.2 x)⟩
/-- a token of kind K must stand here -/
theorem x_must {X : Int × (Int → Int)} {k : Nat} {Q : Vv → Fn2 → Fn2 → Fn2 → Prop} {F A R : Fn2} {α : Type} {fl : Int → Int → α} {g : Int → Int} {n p K s : Int} {rs : α} {f : Int → α} (ht : TxX g n A R) (hs : Sa fl g n p rs (pTk fl g n K p f) F) (hb : s ≠ 0 ↔ tK g n p = K) (hq : ∀ F' p', Sa fl g n p' rs (f p') F' → FG4 F F' → (F' 373 4 = 0 → tK g n p = K) → Q vN F' A R) : Wp X (k + 3) m_X11_must [vA 373, vI s] F A R Q := by
  refine Wp.of [vA 373, vI s] rfl rfl rfl (b_X11_must_0 (x_good (k := k + 1) (fun hg => b_X11_must_4 ⟨fun _ => ?_, fun h => absurd h (by decide)⟩) (fun hg => b_X11_must_4 ⟨fun h => absurd rfl h, fun _ => ?_⟩)))
  · unfold pTk at hs
    refine ⟨fun h => ?_, fun h => ?_⟩
    · rw [if_neg (fun z => (hb.2 z) h)] at hs
      exact x_wrong (k := k) (f p) hs (fun F' e1 e2 e3 => b_X11_must_23 (hq F' p e1 ⟨e3, fun z => by omega⟩ (fun z => by omega)))
    · rw [if_pos (hb.1 h)] at hs
      exact hs.next (k := k) ht hg (fun F' e1 e2 e3 => b_X11_must_16 (b_X11_must_23 (hq F' _ e1 ⟨e3.x4, fun _ => hg⟩ (fun _ => hb.1 h))))
  · obtain ⟨p0, p1, hk, h⟩ := hs
    rcases h with h | h
    · exact absurd h.1 hg
    · exact hq F p ⟨p0, p1, hk, Or.inr h⟩ FG4.refl (fun z => absurd z hg)
theorem x_num {X : Int × (Int → Int)} {k : Nat} {Q : Vv → Fn2 → Fn2 → Fn2 → Prop} {F A R : Fn2} {α : Type} {fl : Int → Int → α} {g : Int → Int} {n p lo hi : Int} {rs : α} {f : Int → Int → α} (ht : TxX g n A R) (hs : Sa fl g n p rs (pNm fl g n lo hi p f) F) (hq : ∀ F' v p', Sa fl g n p' rs (f v p') F' → (F' 373 4 = 0 → lo ≤ v ∧ v ≤ hi) → FG4 F F' → Q (vI v) F' A R) : Wp X (k + 3) m_X11_numeral [vA 373, vI lo, vI hi] F A R Q := by
  have bad : ∀ F1 : Fn2, ∀ w3 : Vv, (∀ c, Sa fl g n p rs c F1) → 0 < F1 373 4 → FX4 F F1 → G X (k + 2) m_X11_numeral Q 53 [vA 373, vI lo, vI hi, w3] [] F1 A R := fun F1 w3 h1 h2 h3 => by
    refine b_X11_numeral_53 fun g1 hg1 => x_good (k := k + 1) (fun h => by omega) (fun _ => b_X11_numeral_62 ⟨fun _ => ?_, fun h => absurd rfl h⟩)
    exact b_X11_numeral_69 (x_good (k := k + 1) (fun h => by omega) (fun _ => b_X11_numeral_73 ⟨fun _ => hq F1 lo p (h1 _) (fun z => by omega) ⟨h3, fun z => by omega⟩, fun h => absurd rfl h⟩))
  have badS : ∀ F1 : Fn2, ∀ c0, Sa fl g n p rs c0 F1 → 0 < F1 373 4 → ∀ c, Sa fl g n p rs c F1 := fun F1 c0 h h2 c => ⟨h.1, h.2.1, h.2.2.1, Or.inr (by rcases h.2.2.2 with h | h; omega; exact h)⟩
  refine Wp.of [vA 373, vI lo, vI hi, vN] rfl rfl rfl (b_X11_numeral_0 (x_good (k := k + 1) (fun hg => b_X11_numeral_4 ⟨fun _ => ?_, fun h => absurd h (by decide)⟩) (fun hg => b_X11_numeral_4 ⟨fun h => absurd rfl h, fun _ => ?_⟩)))
  · have hk := hs.2.2.1
    unfold pNm at hs
    rw [hk.2.2.2.1, tT_4]
    refine ⟨fun h22 => ?_, fun n22 => ?_⟩
    · rw [if_pos h22] at hs
      refine b_X11_numeral_21 (x_good (k := k + 1) (fun _ => b_X11_numeral_25 ⟨fun h => absurd h (by decide), fun _ => ?_⟩) (fun h => absurd hg h))
      have h5 := hk.2.2.2.2.1 h22
      have bb : ¬ (lo ≤ tV g n p ∧ tV g n p ≤ hi) → Wp X (k + 2) m_X11_fails [vA 373, vI 4, vI (F 373 6)] F A R (fun v F A R => G X (k + 2) m_X11_numeral Q 53 [vA 373, vI lo, vI hi, vN] [] F A R) := fun hb => by
        rw [if_neg hb] at hs
        exact x_failsS (k := k + 1) (f 0 0) (by decide) hs (fun F' e1 e2 e3 => bad F' _ (badS F' _ e1 e2) e2 e3)
      rw [h5]
      refine ⟨fun hlt => bb (by omega), fun hge => ⟨fun hle => ?_, fun hgt => bb (by omega)⟩⟩
      have hle' : tV g n p ≤ hi := by omega
      rw [if_pos (by omega)] at hs
      refine b_X11_numeral_53 fun g1 hg1 => x_good (k := k + 1) (fun _ => b_X11_numeral_62 ⟨fun h => absurd h (by decide), fun _ => ?_⟩) (fun h => absurd hg h)
      rw [h5] at hg1
      subst hg1
      refine hs.next (k := k) ht hg (fun F' e1 e2 e3 => b_X11_numeral_69 (x_good (k := k + 1) (fun _ => b_X11_numeral_73 ⟨fun h => absurd h (by decide), fun _ => hq F' _ _ e1 (fun _ => ⟨by omega, hle'⟩) ⟨e3.x4, fun _ => hg⟩⟩) (fun h => absurd e2 h)))
    · rw [if_neg n22] at hs
      refine x_wrong (k := k) (f 0 0) hs (fun F' e1 e2 e3 => b_X11_numeral_21 (x_good (k := k + 1) (fun h => by omega) (fun _ => b_X11_numeral_25 ⟨fun _ => bad F' _ (badS F' _ e1 e2) e2 e3, fun h => absurd rfl h⟩)))
  · obtain ⟨p0, p1, hk, h⟩ := hs
    rcases h with h | h
    · exact absurd h.1 hg
    · exact hq F lo p ⟨p0, p1, hk, Or.inr h⟩ (fun z => by omega) FG4.refl
