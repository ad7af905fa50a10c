/-! THE REFERENCE READS A SPRING -/
/-- the reference's cells of a spring while it is read, bank b -/
def SpX (b : Int) (S : Sp) (A : Fn2) : Prop := A 377 b = S.1 0 0 ∧ A 378 b = S.1 0 1 ∧ (∀ r, 0 ≤ r → r < S.1 0 0 → A 379 (8 * b + r) = S.1 1 r ∧ (∀ i, 3 ≤ i → i ≤ 7 → A (377 + i) (8 * b + r) = S.1 i r) ∧ (0 ≤ S.1 8 r ∧ A 385 (8 * b + r) = S.1 8 r ∨ S.1 8 r < 0 ∧ A 385 (8 * b + r) = -2) ∧ A 389 (8 * b + r) = nmB 256 0 (S.2 r)) ∧ ∀ j, 0 ≤ j → j < S.1 0 1 → ∀ i, 9 ≤ i → i ≤ 11 → A (377 + i) (4 * b + j) = S.1 i j
/-- only bank b changes -/
def FA (b : Int) (A A' : Fn2) : Prop := (∀ a, a < 377 ∨ 389 < a → A' a = A a) ∧ (∀ a i, a = 377 ∨ a = 378 → i ≠ b → A' a i = A a i) ∧ (∀ a i, 379 ≤ a ∧ a ≤ 385 ∨ a = 389 → ¬ (8 * b ≤ i ∧ i < 8 * b + 8) → A' a i = A a i) ∧ ∀ a i, 386 ≤ a → a ≤ 388 → ¬ (4 * b ≤ i ∧ i < 4 * b + 4) → A' a i = A a i
theorem FA.refl {b : Int} {A : Fn2} : FA b A A := ⟨fun _ _ => rfl, fun _ _ _ _ => rfl, fun _ _ _ _ => rfl, fun _ _ _ _ _ => rfl⟩
theorem FA.trans {b : Int} {A A1 A2 : Fn2} (h : FA b A A1) (h' : FA b A1 A2) : FA b A A2 :=
  ⟨fun a x => (h'.1 a x).trans (h.1 a x), fun a i x y => (h'.2.1 a i x y).trans (h.2.1 a i x y), fun a i x y => (h'.2.2.1 a i x y).trans (h.2.2.1 a i x y), fun a i x y z => (h'.2.2.2 a i x y z).trans (h.2.2.2 a i x y z)⟩
theorem FA.st {b c i v : Int} {A : Fn2} (hc : (c = 377 ∨ c = 378) ∧ i = b ∨ (379 ≤ c ∧ c ≤ 385 ∨ c = 389) ∧ 8 * b ≤ i ∧ i < 8 * b + 8 ∨ 386 ≤ c ∧ c ≤ 388 ∧ 4 * b ≤ i ∧ i < 4 * b + 4) : FA b A (st2 A c i v) := by
  have z : ∀ a j, a ≠ c ∨ j ≠ i → st2 A c i v a j = A a j := fun a j h => by
    by_cases e : a = c
    · subst e; rw [st2_s, u1_n (by omega)]
    · rw [st2_n e]
  refine ⟨fun a x => by rw [st2_n (by omega)], fun a j x y => z a j (by omega), fun a j x y => z a j (by omega), fun a j x y w => z a j (by omega)⟩
theorem TxX.fa {b : Int} {g : Int → Int} {n : Int} {A A' R : Fn2} (h : TxX g n A R) (x : FA b A A') : TxX g n A' R := by
  obtain ⟨t1, t2, t3⟩ := h
  exact ⟨t1, t2, fun i a c => by rw [x.1 375 (by omega)]; exact t3 i a c⟩
/-- rooms and joins that stand are not touched by writing behind them -/
theorem SpX.st {b c v : Int} {S : Sp} {A : Fn2} (h : SpX b S A) (hb : 0 ≤ b) (hW : WfS S) (hc : 379 ≤ c ∧ c ≤ 385 ∨ c = 389) : SpX b S (st2 A c (8 * b + S.1 0 0) v) := by
  obtain ⟨h1, h2, h3, h4⟩ := h
  have z : ∀ a j, a ≠ c ∨ j ≠ 8 * b + S.1 0 0 → st2 A c (8 * b + S.1 0 0) v a j = A a j := fun a j h => by
    by_cases e : a = c
    · subst e; rw [st2_s, u1_n (by omega)]
    · rw [st2_n e]
  refine ⟨by rw [z _ _ (by omega)]; exact h1, by rw [z _ _ (by omega)]; exact h2, fun r r0 r1 => ?_, fun j j0 j1 i i0 i1 => by rw [z _ _ (by omega)]; exact h4 j j0 j1 i i0 i1⟩
  obtain ⟨a1, a2, a3, a4⟩ := h3 r r0 r1
  refine ⟨by rw [z _ _ (by omega)]; exact a1, fun i i0 i1 => by rw [z _ _ (by omega)]; exact a2 i i0 i1, by rw [z _ _ (by omega)]; exact a3, by rw [z _ _ (by omega)]; exact a4⟩
theorem SpX.stJ {b c v : Int} {S : Sp} {A : Fn2} (h : SpX b S A) (hc : 386 ≤ c ∧ c ≤ 388) : SpX b S (st2 A c (4 * b + S.1 0 1) v) := by
  obtain ⟨h1, h2, h3, h4⟩ := h
  have z : ∀ a j, a ≠ c ∨ j ≠ 4 * b + S.1 0 1 → st2 A c (4 * b + S.1 0 1) v a j = A a j := fun a j h => by
    by_cases e : a = c
    · subst e; rw [st2_s, u1_n (by omega)]
    · rw [st2_n e]
  refine ⟨by rw [z _ _ (by omega)]; exact h1, by rw [z _ _ (by omega)]; exact h2, fun r r0 r1 => ?_, fun j j0 j1 i i0 i1 => by rw [z _ _ (by omega)]; exact h4 j j0 j1 i i0 i1⟩
  obtain ⟨a1, a2, a3, a4⟩ := h3 r r0 r1
  refine ⟨by rw [z _ _ (by omega)]; exact a1, fun i i0 i1 => by rw [z _ _ (by omega)]; exact a2 i i0 i1, by rw [z _ _ (by omega)]; exact a3, by rw [z _ _ (by omega)]; exact a4⟩
theorem x_namedL {X : Int × (Int → Int)} {k : Nat} {Q : Vv → Fn2 → Fn2 → Fn2 → Prop} {F A R : Fn2} {g : Int → Int} {n p b : Int} {S : Sp} (hR : RS R) (hk : TkX g n p F) (hb : F 373 26 = b) (b0 : 0 ≤ b) (b5 : b < 5) (hX : SpX b S A) (hW : WfS S) : ∀ (m : Nat) (r : Int), 0 ≤ r → r + m = S.1 0 0 → Q (vI (if tK g n p = 23 then fndL S.2 (tW g n p) m r else -1)) F A R → G X k m_X11_roomNamed Q 2 [vA 373, vI r] [] F A R
  | 0, r, h0, hm, hq => by
    refine b_X11_roomNamed_2 hR ?_
    rw [hb, hX.1]
    refine ⟨b0, b5, fun _ => ?_, fun h => by omega⟩
    have : (if tK g n p = 23 then fndL S.2 (tW g n p) 0 r else -1) = (-1 : Int) := by split <;> rfl
    rwa [this] at hq
  | m + 1, r, h0, hm, hq => by
    have hw := hW.1.1
    refine b_X11_roomNamed_2 hR ?_
    rw [hb, hX.1, hk.2.2.2.1, tT_2]
    refine ⟨b0, b5, fun h => absurd (show r < S.1 0 0 by omega) h, fun _ => ⟨fun n23 => ⟨by omega, ?_⟩, fun e23 => ⟨by omega, by omega, by omega, by omega, ?_⟩⟩⟩
    · rw [if_neg n23] at hq
      exact x_namedL hR hk hb b0 b5 hX hW m (r + 1) (by omega) (by omega) (by rw [if_neg n23]; exact hq)
    · rw [if_pos e23] at hq
      have hq2 : Q (vI (if S.2 r = tW g n p then r else fndL S.2 (tW g n p) m (r + 1))) F A R := hq
      rw [(hX.2.2.1 r h0 (by omega)).2.2.2, hk.2.2.2.2.2 (Or.inl e23), lcmp_0, nm256_inj (hW.2 r h0 (by omega)) (tW_l (Or.inl e23))]
      refine ⟨fun hne => ⟨by omega, ?_⟩, fun he => ?_⟩
      · rw [if_neg hne] at hq2
        exact x_namedL hR hk hb b0 b5 hX hW m (r + 1) (by omega) (by omega) (by rw [if_pos e23]; exact hq2)
      · rwa [if_pos he] at hq2
theorem x_named {X : Int × (Int → Int)} {k : Nat} {Q : Vv → Fn2 → Fn2 → Fn2 → Prop} {F A R : Fn2} {g : Int → Int} {n p b : Int} {S : Sp} (hR : RS R) (hk : TkX g n p F) (hb : F 373 26 = b) (b0 : 0 ≤ b) (b5 : b < 5) (hX : SpX b S A) (hW : WfS S) (hq : Q (vI (if tK g n p = 23 then fnd S (tW g n p) else -1)) F A R) : Wp X (k + 1) m_X11_roomNamed [vA 373] F A R Q :=
  Wp.of [vA 373, vN] rfl rfl rfl (b_X11_roomNamed_0 (x_namedL hR hk hb b0 b5 hX hW (S.1 0 0).toNat 0 (by omega) (by have := hW.1.1; omega) hq))
theorem Sa.any {α : Type} {fl : Int → Int → α} {g : Int → Int} {n p : Int} {rs c : α} (c' : α) {F : Fn2} (h : Sa fl g n p rs c F) (hb : 0 < F 373 4) : Sa fl g n p rs c' F := ⟨h.1, h.2.1, h.2.2.1, Or.inr (by rcases h.2.2.2 with h | h; omega; exact h)⟩
theorem Sa.ok {α : Type} {fl : Int → Int → α} {g : Int → Int} {n p : Int} {rs c c' : α} {F : Fn2} (h : Sa fl g n p rs c F) (e : F 373 4 = 0 → c = c') : Sa fl g n p rs c' F := by
  obtain ⟨h1, h2, h3, h4⟩ := h
  refine ⟨h1, h2, h3, ?_⟩
  rcases h4 with h | h
  · exact Or.inl ⟨h.1, by rw [h.2.1]; exact e h.1, h.2.2⟩
  · exact Or.inr h
theorem Sa.nn {α : Type} {fl : Int → Int → α} {g : Int → Int} {n p : Int} {rs c : α} {F : Fn2} (h : Sa fl g n p rs c F) : 0 ≤ F 373 4 := by rcases h.2.2.2 with h | h <;> omega
theorem x_rdUp {X : Int × (Int → Int)} {k : Nat} {Q : Vv → Fn2 → Fn2 → Fn2 → Prop} {F A R : Fn2} {g : Int → Int} {n p b d : Int} {S : Sp} {rs : Rs} {f : Int → Int → Rs} (ht : TxX g n A R) (hs : Sa flS g n p rs (pUp g n S d p f) F) (hg : F 373 4 = 0) (hb : F 373 26 = b) (b0 : 0 ≤ b) (b5 : b < 5) (hX : SpX b S A) (hW : WfS S) (h8 : S.1 0 0 < 8) (hd : A 380 (8 * b + S.1 0 0) = d)
    (hq : ∀ F' u u' p', Sa flS g n p' rs (f u p') F' → (F' 373 4 = 0 → u = -1 ∧ u' = -2 ∨ 0 ≤ u ∧ u < S.1 0 0 ∧ u' = u) → FG4 F F' → Q vN F' (st2 A 385 (8 * b + S.1 0 0) u') R) : Wp X (k + 4) m_X11_readUp [vA 373, vI (8 * b + S.1 0 0)] F A R Q := by
  have hR := ht.1
  have hk := hs.2.2.1
  have h0 := hW.1.1.1
  have T' : ∀ u', TxX g n (st2 A 385 (8 * b + S.1 0 0) u') R := fun u' => ht.fa (b := b) (FA.st (by omega))
  -- from 97 on
  have tl : ∀ (F1 : Fn2) (u u' : Int), Sa flS g n p rs (f u (tE g n p)) F1 → (F1 373 4 = 0 → u = -1 ∧ u' = -2 ∨ 0 ≤ u ∧ u < S.1 0 0 ∧ u' = u) → FG4 F F1 → G X (k + 3) m_X11_readUp Q 97 [vA 373, vI (8 * b + S.1 0 0), vI u'] [] F1 A R := fun F1 u u' s1 c1 f1 => by
    refine b_X11_readUp_97 hR ⟨by omega, by omega, fun A1 hA1 => ?_⟩
    subst hA1
    refine x_good (k := k + 2) (fun hg1 => b_X11_readUp_108 ⟨fun h => absurd h (by decide), fun _ => ?_⟩) (fun hg1 => b_X11_readUp_108 ⟨fun _ => ?_, fun h => absurd rfl h⟩)
    · exact s1.next (k := k + 1) (T' u') hg1 (fun F2 e1 e2 e3 => b_X11_readUp_115 (hq F2 u u' _ e1 (fun _ => c1 hg1) (f1.trans ⟨e3.x4, fun _ => hg1⟩)))
    · have := s1.nn
      exact b_X11_readUp_115 (hq F1 u u' p (s1.any _ (by omega)) (fun z => absurd z hg1) f1)
  have bad : ∀ (F1 : Fn2) (u' : Int) c, Sa flS g n p rs c F1 → 0 < F1 373 4 → FX4 F F1 → G X (k + 3) m_X11_readUp Q 97 [vA 373, vI (8 * b + S.1 0 0), vI u'] [] F1 A R := fun F1 u' c s1 h1 f1 => tl F1 0 u' (s1.any _ h1) (fun z => by omega) ⟨f1, fun z => by omega⟩
  unfold pUp at hs
  refine Wp.of [vA 373, vI (8 * b + S.1 0 0), vN] rfl rfl rfl (b_X11_readUp_0 (x_isWord (k := k + 2) 9 hk (by decide) rfl (fun e9 => b_X11_readUp_7 ⟨fun h => absurd h (by decide), fun _ => ?_⟩) (fun n9 => b_X11_readUp_7 ⟨fun _ => ?_, fun h => absurd rfl h⟩)))
  · have e9' : tK g n p = 9 := e9
    rw [if_pos e9'] at hs
    refine b_X11_readUp_19 hR ⟨fun _ => ⟨fun _ => ⟨fun _ => ?_, fun h => absurd rfl h⟩, fun h => absurd h (by decide)⟩, fun h => absurd rfl h⟩
    exact tl F (-1) (-2) hs (fun _ => Or.inl ⟨rfl, rfl⟩) FG4.refl
  · have n9' : ¬ tK g n p = 9 := n9
    rw [if_neg n9'] at hs
    have fb := fnd_b (S := S) (w := tW g n p) h0
    refine x_named (k := k + 2) hR hk hb b0 b5 hX hW (b_X11_readUp_19 hR ?_)
    rw [hk.2.2.2.1, tT_2]
    refine ⟨fun h => ?_, fun _ => ⟨fun e23 => ⟨fun hne => ⟨fun h => ?_, fun _ => ?_⟩, fun he => ?_⟩, fun n23 => ?_⟩⟩
    · exfalso; split at h <;> omega
    · exfalso; split at h <;> omega
    · rw [if_pos e23] at hne hs ⊢
      rw [if_neg hne] at hs
      have hu : 0 ≤ fnd S (tW g n p) ∧ fnd S (tW g n p) < S.1 0 0 := by omega
      have hdu := (hX.2.2.1 _ hu.1 hu.2).2.1 3 (by decide) (by decide)
      have hdu' : A 380 (8 * b + fnd S (tW g n p)) = S.1 3 (fnd S (tW g n p)) := hdu
      rw [hb, hdu', hd]
      refine ⟨by omega, by omega, by omega, by omega, by omega, by omega, fun hlt => ?_, fun hge => ?_⟩
      · rw [if_pos hlt] at hs
        exact tl F _ _ hs (fun _ => Or.inr ⟨hu.1, hu.2, rfl⟩) FG4.refl
      · rw [if_neg hge] at hs
        exact x_failsS (k := k + 2) (f 0 0) (by decide) hs (fun F' e1 e2 e3 => bad F' _ _ e1 e2 e3)
    · rw [if_pos e23] at he hs
      rw [if_pos he] at hs
      exact x_failsS (k := k + 2) (f 0 0) (by decide) hs (fun F' e1 e2 e3 => b_X11_readUp_55 (bad F' _ _ e1 e2 e3))
    · rw [if_neg n23] at hs
      exact x_wrong (k := k + 1) (f 0 0) hs (fun F' e1 e2 e3 => b_X11_readUp_38 (bad F' _ _ e1 e2 e3))
