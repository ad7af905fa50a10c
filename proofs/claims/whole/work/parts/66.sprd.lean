/-! SPRINGS READ: what is asked of a text, and the class's part -/
/-- refused at p -/
def rfs {α : Type} (fl : Int → Int → α) (g : Int → Int) (n p w : Int) : α := fl (if tK g n p = 21 then 1 else w) (tA g n p)
def pTk {α : Type} (fl : Int → Int → α) (g : Int → Int) (n K p : Int) (f : Int → α) : α := if tK g n p = K then f (tE g n p) else rfs fl g n p 2
def pNm {α : Type} (fl : Int → Int → α) (g : Int → Int) (n lo hi p : Int) (f : Int → Int → α) : α := if tK g n p = 22 then (if lo ≤ tV g n p ∧ tV g n p ≤ hi then f (tV g n p) (tE g n p) else fl 4 (tA g n p)) else rfs fl g n p 2
/-- the frame of the class's tokens -/
def FT2 (F F' : Fn2) : Prop := ∀ a f, a ≠ 2 ∨ f = 1 → F' a f = F a f
theorem FT2.refl {F : Fn2} : FT2 F F := fun _ _ _ => rfl
theorem FT2.trans {F F1 F2 : Fn2} (h : FT2 F F1) (h' : FT2 F1 F2) : FT2 F F2 := fun a f x => (h' a f x).trans (h a f x)
theorem FT.t2 {F F' : Fn2} (h : FT F F') : FT2 F F' := fun a f x => h a f (by omega)
theorem FT2.st {F F' : Fn2} {i v : Int} (h : F' = st2 F 2 i v) (hi : i ≠ 1) : FT2 F F' := fun a f x => st2c h a f (by omega)
theorem TkC.next {X : Int × (Int → Int)} {k : Nat} {Q : Vv → Fn2 → Fn2 → Fn2 → Prop} {F A R : Fn2} {g : Int → Int} {n p : Int} (ht : TxC g n A R) (hp : 0 ≤ p) (hpn : p ≤ n) (hk : TkC g n p F) (hq : ∀ F', TkC g n (tE g n p) F' → FT2 F F' → (∀ f, f = 7 ∨ f = 8 → F' 2 f = F 2 f) → 0 ≤ tE g n p → tE g n p ≤ n → Q vN F' A R) : Wp X (k + 6) m_X8_goNext [vA 2] F A R Q := by
  have a := tA_b (g := g) hpn
  have e := tE_b (g := g) hpn
  exact c_next (k := k) ht (by omega) e.2.1 hk.1 hk.2.2.1 hk.2.2.2.2.2.2.1 hk.2.2.2.2.2.2.2 (fun F' h h' => hq F' h h'.t2 (fun f hf => h' 2 f (by omega)) (by omega) e.2.1)
theorem c_refuse {X : Int × (Int → Int)} {k : Nat} {Q : Vv → Fn2 → Fn2 → Fn2 → Prop} {F A R : Fn2} {α : Type} {fl : Int → Int → α} {g : Int → Int} {n p w : Int} {rs : α} (hk : TkC g n p F) (hw : 0 < w) (hr : rs = rfs fl g n p w) (hq : ∀ F', rs = fl (F' 2 7) (F' 2 8) → 0 < F' 2 7 → FT2 F F' → Q (vI 0) F' A R) : Wp X (k + 1) m_X8_refuse [vA 2, vI w] F A R Q := by
  obtain ⟨k1, k2, k3, k4, k5, k6⟩ := hk
  unfold rfs at hr
  refine Wp.of [vA 2, vI w] rfl rfl rfl (b_X8_refuse_0 ⟨fun hne F1 hF1 F2 hF2 => ?_, fun he F1 hF1 F2 hF2 => ?_⟩)
  · have x1 := st2c hF1
    have x2 := st2c hF2
    rw [x1 2 4 (by omega), k2] at hF2
    refine hq F2 ?_ ?_ ((FT2.st hF1 (by omega)).trans (FT2.st hF2 (by omega)))
    · rw [hr, if_neg (by rw [← k4]; exact hne), x2 2 7 (by omega), hF1, st2_s, u1_s, hF2, st2_s, u1_s]
    · rw [x2 2 7 (by omega), hF1, st2_s, u1_s]; exact hw
  · have x1 := st2c hF1
    have x2 := st2c hF2
    rw [x1 2 4 (by omega), k2] at hF2
    refine hq F2 ?_ ?_ ((FT2.st hF1 (by omega)).trans (FT2.st hF2 (by omega)))
    · rw [hr, if_pos (by rw [← k4]; exact he), x2 2 7 (by omega), hF1, st2_s, u1_s, hF2, st2_s, u1_s]
    · rw [x2 2 7 (by omega), hF1, st2_s, u1_s]; decide
theorem c_take {X : Int × (Int → Int)} {k : Nat} {Q : Vv → Fn2 → Fn2 → Fn2 → Prop} {F A R : Fn2} {α : Type} {fl : Int → Int → α} {g : Int → Int} {n p K : Int} {rs : α} {f : Int → α} (ht : TxC g n A R) (hp : 0 ≤ p) (hpn : p ≤ n) (hk : TkC g n p F) (hr : rs = pTk fl g n K p f) (hq1 : ∀ F' p', rs = f p' → p' = tE g n p → 0 ≤ p' → p' ≤ n → TkC g n p' F' → FT2 F F' → tK g n p = K → Q (vI 1) F' A R) (hq0 : ∀ F', rs = fl (F' 2 7) (F' 2 8) → 0 < F' 2 7 → FT2 F F' → Q (vI 0) F' A R) : Wp X (k + 7) m_X8_take [vA 2, vI K] F A R Q := by
  unfold pTk at hr
  refine Wp.of [vA 2, vI K] rfl rfl rfl (b_X8_take_0 ⟨fun he => ?_, fun hne => ?_⟩)
  · rw [hk.2.2.2.1] at he
    rw [if_pos he] at hr
    exact hk.next (k := k) ht hp hpn (fun F' h1 h2 _ h3 h4 => b_X8_take_18 (hq1 F' _ hr rfl h3 h4 h1 h2 he))
  · rw [hk.2.2.2.1] at hne
    rw [if_neg hne] at hr
    exact c_refuse (k := k + 5) hk (by decide) hr (fun F' h1 h2 h3 => b_X8_take_13 ⟨by decide, by decide, hq0 F' h1 h2 h3⟩)
theorem TxC.pt {c i v : Int} {g : Int → Int} {n : Int} {A R : Fn2} (hc : c ≠ 1) (h : TxC g n A R) : TxC g n (st2 A c i v) R :=
  ⟨h.1, h.2.1, h.2.2.1, fun j a b => by rw [st2_n (fun e => hc e.symm)]; exact h.2.2.2 j a b⟩
theorem c_told {X : Int × (Int → Int)} {k : Nat} {Q : Vv → Fn2 → Fn2 → Fn2 → Prop} {F A R : Fn2} {α : Type} {fl : Int → Int → α} {g : Int → Int} {n p K lo hi c i ln : Int} {rs : α} {f : Int → Int → α} (kc : Y1.1 c = 0) (lc : Y1.2.1 c = ln) (hc : c ≠ 1) (i0 : 0 ≤ i) (il : i < ln) (ht : TxC g n A R) (hp : 0 ≤ p) (hpn : p ≤ n) (hk : TkC g n p F) (hr : rs = pTk fl g n K p fun p => pNm fl g n lo hi p f) (hq1 : ∀ F' v p', rs = f v p' → lo ≤ v → v ≤ hi → 0 ≤ p' → p' ≤ n → TkC g n p' F' → FT2 F F' → Q (vI 1) F' (st2 A c i v) R) (hq0 : ∀ F', rs = fl (F' 2 7) (F' 2 8) → 0 < F' 2 7 → FT2 F F' → Q (vI 0) F' A R) : Wp X (k + 7) m_X8_takeTold [vA 2, vI K, vI lo, vI hi, vA c, vI i] F A R Q := by
  unfold pTk at hr
  refine Wp.of [vA 2, vI K, vI lo, vI hi, vA c, vI i] rfl rfl rfl (b_X8_takeTold_0 kc lc ⟨fun he => ?_, fun hne => ?_⟩)
  · rw [hk.2.2.2.1] at he
    rw [if_pos he] at hr
    refine hk.next (k := k) ht hp hpn (fun F1 h1 h2 _ h3 h4 => b_X8_takeTold_18 kc lc ?_)
    replace hr : rs = pNm fl g n lo hi (tE g n p) f := hr
    unfold pNm at hr
    refine ⟨fun e22 => ?_, fun n22 => ?_⟩
    · rw [h1.2.2.2.1] at e22
      rw [if_pos e22] at hr
      have v5 := h1.2.2.2.2.1 e22
      have bad : ¬ (lo ≤ tV g n (tE g n p) ∧ tV g n (tE g n p) ≤ hi) → Wp X (k + 6) m_X8_refuse [vA 2, vI 4] F1 A R (fun v F A R => G X (k + 6) m_X8_takeTold Q 54 [vA 2, vI K, vI lo, vI hi, vA c, vI i] [v] F A R) := fun hb => by
        rw [if_neg hb] at hr
        refine c_refuse (fl := fl) (k := k + 5) h1 (by decide) (by rw [hr]; unfold rfs; rw [if_neg (by omega)]) (fun F' g1 g2 g3 => b_X8_takeTold_54 kc lc ⟨by decide, by decide, hq0 F' g1 g2 (h2.trans g3)⟩)
      rw [v5]
      refine ⟨fun hlt => bad (by omega), fun hge => ⟨fun hle => ⟨fun h => absurd i0 (by omega), fun _ => ⟨fun h => absurd il h, fun _ => ⟨i0, il, fun A1 hA1 => ?_⟩⟩⟩, fun hgt => bad (by omega)⟩⟩
      rw [if_pos (by omega)] at hr
      subst hA1
      exact h1.next (k := k) (ht.pt hc) h3 h4 (fun F3 g1 g2 _ g4 g5 => b_X8_takeTold_81 kc lc (hq1 F3 _ _ hr (by omega) (by omega) g4 g5 g1 (h2.trans g2)))
    · rw [h1.2.2.2.1] at n22
      rw [if_neg n22] at hr
      exact c_refuse (k := k + 5) h1 (by decide) hr (fun F' g1 g2 g3 => b_X8_takeTold_32 kc lc ⟨by decide, by decide, hq0 F' g1 g2 (h2.trans g3)⟩)
  · rw [hk.2.2.2.1] at hne
    rw [if_neg hne] at hr
    exact c_refuse (k := k + 5) hk (by decide) hr (fun F' h1 h2 h3 => b_X8_takeTold_13 kc lc ⟨by decide, by decide, hq0 F' h1 h2 h3⟩)
/-- a spring as far as it is told, and its rooms' names -/
abbrev Sp : Type := Fn2 × (Int → List Int)
abbrev Rs : Type := Int × Int × Sp
def okS (S : Sp) : Rs := (0, 0, S)
def flS (a b : Int) : Rs := (a, b, (fun _ _ => 0, fun _ => []))
def fndL (N : Int → List Int) (w : List Int) : Nat → Int → Int
  | 0, _ => -1
  | m + 1, r => if N r = w then r else fndL N w m (r + 1)
def fnd (S : Sp) (w : List Int) : Int := fndL S.2 w (S.1 0 0).toNat 0
theorem fndL_b {N : Int → List Int} {w : List Int} : ∀ (m : Nat) (r : Int), 0 ≤ r → fndL N w m r = -1 ∨ r ≤ fndL N w m r ∧ fndL N w m r < r + m
  | 0, _, _ => Or.inl rfl
  | m + 1, r, h => by
    show (if N r = w then r else fndL N w m (r + 1)) = -1 ∨ r ≤ (if N r = w then r else fndL N w m (r + 1)) ∧ (if N r = w then r else fndL N w m (r + 1)) < r + (m + 1 : Nat)
    by_cases e : N r = w
    · rw [if_pos e]; omega
    · rw [if_neg e]; have := fndL_b (N := N) (w := w) m (r + 1) (by omega); omega
theorem fnd_b {S : Sp} {w : List Int} (h : 0 ≤ S.1 0 0) : fnd S w = -1 ∨ 0 ≤ fnd S w ∧ fnd S w < S.1 0 0 := by
  have := fndL_b (N := S.2) (w := w) (S.1 0 0).toNat 0 (by omega)
  unfold fnd; omega
def rmV (k d h w t c u i : Int) : Int := if i = 1 then k else if i = 3 then d else if i = 4 then h else if i = 5 then w else if i = 6 then t else if i = 7 then c else u
def addR (S : Sp) (nm : List Int) (V : Int → Int) : Sp := (fun i r => if i = 0 then (if r = 0 then S.1 0 0 + 1 else S.1 0 r) else if r = S.1 0 0 ∧ i ≤ 8 then V i else S.1 i r, fun r => if r = S.1 0 0 then nm else S.2 r)
def addJ (S : Sp) (a b w : Int) : Sp := (fun i r => if i = 0 then (if r = 1 then S.1 0 1 + 1 else S.1 0 r) else if r = S.1 0 1 ∧ 9 ≤ i then (if i = 9 then a else if i = 10 then b else w) else S.1 i r, S.2)
def pUp (g : Int → Int) (n : Int) (S : Sp) (d p : Int) (f : Int → Int → Rs) : Rs := if tK g n p = 9 then f (-1) (tE g n p) else if tK g n p = 23 then (if fnd S (tW g n p) = -1 then flS 5 (tA g n p) else if S.1 3 (fnd S (tW g n p)) < d then f (fnd S (tW g n p)) (tE g n p) else flS 6 (tA g n p)) else rfs flS g n p 2
def pRoom (g : Int → Int) (n : Int) (S : Sp) (k p : Int) (f : Sp → Int → Rs) : Rs :=
  if tK g n p = 23 then (if fnd S (tW g n p) = -1 then
    pTk flS g n 3 (tE g n p) fun q => pNm flS g n 0 60 q fun d q => pTk flS g n 4 q fun q => pNm flS g n 1 99 q fun h q => pTk flS g n 5 q fun q => pNm flS g n 0 30 q fun w q => pTk flS g n 6 q fun q => pNm flS g n 0 999 q fun t q => pTk flS g n 7 q fun q => pNm flS g n 0 30 q fun c q => pTk flS g n 8 q fun q => pUp g n S d q fun u q => pTk flS g n 59 q fun q => f (addR S (tW g n p) (rmV k d h w t c u)) q
  else flS 3 (tA g n p)) else rfs flS g n p 2
def pJd (g : Int → Int) (n : Int) (S : Sp) (but p : Int) (f : Int → Int → Rs) : Rs := if tK g n p = 23 then (if fnd S (tW g n p) = -1 then flS 5 (tA g n p) else if fnd S (tW g n p) = but then flS 6 (tA g n p) else f (fnd S (tW g n p)) (tE g n p)) else rfs flS g n p 2
def pJoin (g : Int → Int) (n : Int) (S : Sp) (p : Int) (f : Sp → Int → Rs) : Rs := pJd g n S (-1) p fun a q => pJd g n S a q fun b q => pTk flS g n 5 q fun q => pNm flS g n 0 30 q fun w q => pTk flS g n 59 q fun q => f (addJ S a b w) q
def pLines (g : Int → Int) (n : Int) : Nat → Sp → Int → Rs
  | 0, S, _ => okS S
  | m + 1, S, p => if tK g n p = 20 then okS S else if tK g n p ≤ 2 ∧ S.1 0 0 < 8 then pRoom g n S (tK g n p) (tE g n p) (pLines g n m) else if tK g n p = 10 ∧ S.1 0 1 < 4 then pJoin g n S (tE g n p) (pLines g n m) else rfs flS g n p 2
def S0 : Sp := (fun _ _ => 0, fun _ => [])
/-- a spring's text read -/
def rdS (g : Int → Int) (n : Int) : Rs := pLines g n 13 S0 0
/-- the class's cells of a spring while it is read -/
def SpI (q : Int) (S : Sp) (F A : Fn2) : Prop := F q 0 = S.1 0 0 ∧ F q 1 = S.1 0 1 ∧ (∀ r, 0 ≤ r → r < S.1 0 0 → (∀ i, 1 ≤ i → i ≤ 8 → i ≠ 2 → A (q + i) r = S.1 i r) ∧ A (q + 2) r = nmB 27 96 (S.2 r)) ∧ ∀ j, 0 ≤ j → j < S.1 0 1 → ∀ i, 9 ≤ i → i ≤ 11 → A (q + i) j = S.1 i j
/-- what a spring must be while it is read -/
def WfS (S : Sp) : Prop := WFP S.1 ∧ ∀ r, 0 ≤ r → r < S.1 0 0 → lettr (S.2 r)
/-- the frame of a spring's reading -/
def FQ (q : Int) (F A F' A' : Fn2) : Prop := (∀ a f, a ≠ q → a ≠ 2 ∨ f = 1 → F' a f = F a f) ∧ ∀ a, a < q + 1 ∨ q + 11 < a → A' a = A a
theorem FQ.refl {q : Int} {F A : Fn2} : FQ q F A F A := ⟨fun _ _ _ _ => rfl, fun _ _ => rfl⟩
theorem FQ.trans {q : Int} {F A F1 A1 F2 A2 : Fn2} (h : FQ q F A F1 A1) (h' : FQ q F1 A1 F2 A2) : FQ q F A F2 A2 := ⟨fun a f x y => (h'.1 a f x y).trans (h.1 a f x y), fun a x => (h'.2 a x).trans (h.2 a x)⟩
theorem FT2.q {q : Int} {F A F' : Fn2} (h : FT2 F F') : FQ q F A F' A := ⟨fun a f _ y => h a f y, fun _ _ => rfl⟩
theorem TxC.fq {q : Int} {g : Int → Int} {n : Int} {F A F' A' R : Fn2} (hq : 5 ≤ q) (h : TxC g n A R) (x : FQ q F A F' A') : TxC g n A' R := by
  obtain ⟨t1, t2, t3, t4⟩ := h
  exact ⟨t1, t2, t3, fun i a b => by rw [x.2 1 (by omega)]; exact t4 i a b⟩
theorem tW_l {g : Int → Int} {n p : Int} (h : tK g n p = 23 ∨ tK g n p < 20) : lettr (tW g n p) := by
  intro c hc
  unfold tK at h
  by_cases h1 : tA g n p < n
  · rw [if_pos h1] at h
    by_cases h2 : bL (g (tA g n p)) = true
    · refine fwd_all (g := g) (P := fun c => 97 ≤ c ∧ c ≤ 122) _ (fun i a b => bL_t.1 ?_) c hc
      have eE : tE g n p = adw g n bL (tA g n p) := by unfold tE; rw [if_pos h1, if_pos h2]
      exact adw_in (n := n) a (by omega)
    · rw [if_neg h2] at h
      split at h
      · split at h <;> omega
      · split at h <;> omega
  · rw [if_neg h1] at h; omega
