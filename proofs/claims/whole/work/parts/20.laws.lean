/-! A LAW'S CODE AND WHAT IT COMES TO: numbers stand for themselves, all else is a token's kind below 0 -/
def wrt (k a b : Int) : Int :=
  if k = 15 then (if a ≠ 0 ∧ b ≠ 0 then 1 else 0) else if k = 42 then w32 (a * b) else if k = 43 then w32 (a + b) else if k = 45 then w32 (a - b) else if k = 47 then (if b = 0 then 0 else w32 (a.tdiv b)) else if k = 60 then (if a < b then 1 else 0) else if k = 61 then (if a = b then 1 else 0) else if k = 62 then (if b < a then 1 else 0) else (if a ≠ 0 ∨ b ≠ 0 then 1 else 0)
def nmd (k d a w h : Int) : Int := if k = 3 then d else if k = 17 then a else if k = 18 then w else h
abbrev isNm (c : Int) : Prop := c = -3 ∨ -19 ≤ c ∧ c ≤ -17
def ev1 (d a w h c : Int) (st : List Int) : List Int :=
  if c = -16 then (match st with
    | x :: r => (if x = 0 then 1 else 0) :: r
    | [] => [])
  else if 0 ≤ c then c :: st else if isNm c then nmd (-c) d a w h :: st else match st with
    | y :: x :: r => wrt (-c) x y :: r
    | r => r
def evl (d a w h : Int) : List Int → List Int → List Int
  | [], st => st
  | c :: cs, st => evl d a w h cs (ev1 d a w h c st)
def evr (d a w h : Int) (cs : List Int) : Int := (evl d a w h cs []).headD 0
/-- what is an instruction -/
def isOp (c : Int) : Prop := 0 ≤ c ∨ c = -3 ∨ c = -14 ∨ c = -15 ∨ c = -16 ∨ c = -17 ∨ c = -18 ∨ c = -19 ∨ c = -42 ∨ c = -43 ∨ c = -45 ∨ c = -47 ∨ c = -60 ∨ c = -61 ∨ c = -62
/-- how deep the stack is behind it: never more than 40 -/
def dpo (c : Int) (n : Nat) : Option Nat :=
  if c = -16 then (if n = 0 then none else some n) else if 0 ≤ c ∨ isNm c then (if n < 40 then some (n + 1) else none) else if n < 2 then none else some (n - 1)
def dps : List Int → Nat → Option Nat
  | [], n => some n
  | c :: cs, n => match dpo c n with
    | some m => dps cs m
    | none => none
def Wfc (cs : List Int) : Prop := dps cs 0 = some 1 ∧ ∀ c ∈ cs, isOp c
def SR (b : Int) (S : Int → Int) : List Int → Prop
  | [] => True
  | x :: r => S (r.length + b) = x ∧ SR b S r
def CR (f : Int → Int) : Int → List Int → Prop
  | _, [] => True
  | i, c :: cs => f i = c ∧ CR f (i + 1) cs
theorem SR.hi {b : Int} {S : Int → Int} {i v : Int} : ∀ {st : List Int}, SR b S st → st.length + b ≤ i → SR b (u1 S i v) st
  | [], _, _ => trivial
  | x :: r, h, hi => by
    have hl : ((x :: r).length : Int) = r.length + 1 := by simp
    refine ⟨?_, SR.hi h.2 (by omega)⟩
    rw [u1_n (by omega)]; exact h.1
theorem SR.push {b : Int} {S : Int → Int} {v : Int} {st : List Int} (h : SR b S st) {i : Int} (e : i = st.length + b) : SR b (u1 S i v) (v :: st) := by
  subst e
  exact ⟨u1_s, h.hi (by omega)⟩
theorem w_worth {X : Int × (Int → Int)} {k : Nat} {Q : Vv → Fn2 → Fn2 → Fn2 → Prop} {F A R : Fn2} {c a b : Int} (h : Q (vI (wrt c a b)) F A R) : Wp X (k + 1) m_X3_worth [vI c, vI a, vI b] F A R Q := by
  refine Wp.of [vI c, vI a, vI b] rfl rfl rfl (b_X3_worth_0 ?_)
  unfold wrt at h
  repeat' (first | (intro g hg; have hg := hg.symm; subst hg) | intro hh | refine And.intro ?_ ?_)
  all_goals (try omega)
  all_goals (simp [*] at h; first | exact h | (revert h; simp_all) | skip)
theorem w_two {X : Int × (Int → Int)} {k : Nat} {Q : Vv → Fn2 → Fn2 → Fn2 → Prop} {F A R : Fn2} {c x a b : Int} (hc : (x = 38 → c = 15) ∧ (x ≠ 38 → c = x ∧ x ≠ 15 ∨ x = 124 ∧ c = 14)) (h : Q (vI (wrt c a b)) F A R) : Wp X (k + 1) m_X11_two [vI x, vI a, vI b] F A R Q := by
  refine Wp.of [vI x, vI a, vI b] rfl rfl rfl (b_X11_two_0 ?_)
  unfold wrt at h
  by_cases e : x = 38
  · have := hc.1 e
    subst this; subst e
    repeat' (first | (intro g hg; have hg := hg.symm; subst hg) | intro hh | refine And.intro ?_ ?_)
    all_goals (try omega)
    all_goals (simp [*] at h; first | exact h | (revert h; simp_all) | skip)
  · rcases hc.2 e with ⟨e1, e2⟩ | ⟨e1, e2⟩
    · subst e1
      repeat' (first | (intro g hg; have hg := hg.symm; subst hg) | intro hh | refine And.intro ?_ ?_)
      all_goals (try omega)
      all_goals (simp [*] at h; first | exact h | (revert h; simp_all) | skip)
    · subst e1; subst e2
      repeat' (first | (intro g hg; have hg := hg.symm; subst hg) | intro hh | refine And.intro ?_ ?_)
      all_goals (try omega)
      all_goals (simp [*] at h; first | exact h | (revert h; simp_all) | skip)
theorem w_named {X : Int × (Int → Int)} {k : Nat} {Q : Vv → Fn2 → Fn2 → Fn2 → Prop} {F A R : Fn2} {c d a w h : Int} (hq : Q (vI (nmd c d a w h)) F A R) : Wp X (k + 1) m_X3_named [vI c, vI d, vI a, vI w, vI h] F A R Q := by
  refine Wp.of [vI c, vI d, vI a, vI w, vI h] rfl rfl rfl (b_X3_named_0 ?_)
  unfold nmd at hq
  repeat' (first | (intro g hg; have hg := hg.symm; subst hg) | intro hh | refine And.intro ?_ ?_)
  all_goals (try omega)
  all_goals (simp [*] at hq; first | exact hq | (revert hq; simp_all) | skip)
theorem up2_st2 {M : Fn2} {a i v : Int} {f : Int → Int} : st2 (up2 M a f) a i v = up2 M a (u1 f i v) := by
  unfold st2; rw [up2_s, up2_up2]
theorem CR.hd {f : Int → Int} {i c : Int} {cs : List Int} (h : CR f i (c :: cs)) : f i = c := h.1
theorem w_workL {X : Int × (Int → Int)} {k : Nat} {Q : Vv → Fn2 → Fn2 → Fn2 → Prop} {F A R : Fn2} {o l d a w h : Int} (hR : RS R) (ho : At_Laws o) (hl0 : 0 ≤ l) (hl : l < 3) (he : A (o + 3) l ≤ 300) : ∀ (cs : List Int) (st : List Int) (S : Int → Int) (i : Int) (w8 : Vv), 0 ≤ i → i + cs.length = A (o + 3) l → CR (A (o + 1)) i cs → SR 1 S st → dps cs st.length = some 1 → (∀ c ∈ cs, isOp c) → st.length ≤ 40 →
    (∀ S', Q (vI ((evl d a w h cs st).headD 0)) F (up2 A (o + 4) S') R) → G X (k + 1) m_X3_work Q 11 [vA o, vI l, vI d, vI a, vI w, vI h, vI st.length, vI i, w8] [] F (up2 A (o + 4) S) R := by
  intro cs
  have n1 : o + 1 ≠ o + 4 := by omega
  have n3 : o + 3 ≠ o + 4 := by omega
  induction cs with
  | nil =>
    intro st S i w8 hi he2 hc hs hd hop hn hq
    have h1 : st.length = 1 := by simpa [dps] using hd
    refine b_X3_work_11 hR ho ?_
    rw [up2_n n3, up2_s]
    simp at he2
    refine ⟨hl0, hl, fun _ => ⟨by omega, by omega, ?_⟩, fun hx => by omega⟩
    match st, h1, hs, hq with
    | [x], _, hs, hq =>
      have := hs.1
      simp at this ⊢
      rw [this]; exact hq S
  | cons c cs ih =>
    intro st S i w8 hi he2 hc hs hd hop hn hq
    have hlen : ((c :: cs).length : Int) = cs.length + 1 := by simp
    refine b_X3_work_11 hR ho ?_
    rw [up2_n n3, up2_s, up2_n n1, hc.1]
    have hop1 := hop c (by simp)
    have hop2 : ∀ x ∈ cs, isOp x := fun x hx => hop x (by simp [hx])
    refine ⟨hl0, hl, fun hx => by omega, fun _ => ⟨by omega, by omega, ?_⟩⟩
    intro g hg
    have hg := hg.symm
    subst hg
    have hd1 : ∃ m, dpo c st.length = some m ∧ dps cs m = some 1 := by
      simp only [dps] at hd
      split at hd
      · exact ⟨_, by assumption, hd⟩
      · cases hd
    obtain ⟨m, hm, hd2⟩ := hd1
    -- the next turn, once the stack stands
    have nx : ∀ (S' : Int → Int) (st' : List Int) (w8 : Vv), ev1 d a w h c st = st' → SR 1 S' st' → st'.length = m → m ≤ 40 → G X (k + 1) m_X3_work Q 184 [vA o, vI l, vI d, vI a, vI w, vI h, vI st'.length, vI i, vI c] [] F (up2 A (o + 4) S') R := by
      intro S' st' w8 e1 hs' e2 e3
      refine b_X3_work_184 ho ⟨by omega, ?_⟩
      refine ih st' S' (i + 1) _ (by omega) (by omega) hc.2 hs' (by rw [e2]; exact hd2) hop2 (by omega) ?_
      subst e1; exact hq
    have ks : Y1.1 (o + 4) = 0 := la_Laws_6 ho
    have ls : Y1.2.1 (o + 4) = 41 := ln_Laws_6 ho
    unfold dpo at hm
    by_cases c16 : c = -16
    · subst c16
      rw [if_pos rfl] at hm
      refine ⟨fun hx => absurd rfl hx, fun _ => ?_⟩
      match st, hm, hs, nx, hn with
      | x :: r, hm, hs, nx, hn =>
        have hl2 : ((x :: r).length : Int) = r.length + 1 := by simp
        have hx := hs.1
        simp at hm
        have hx' : S ((x :: r).length : Int) = x := by rw [hl2]; simpa using hx
        refine ⟨by omega, by simp at hn ⊢; omega, ?_⟩
        rw [hx']
        have fin : ∀ v, v = (if x = 0 then 1 else 0) → G X (k + 1) m_X3_work Q 184 [vA o, vI l, vI d, vI a, vI w, vI h, vI ((x :: r).length : Int), vI i, vI (-16)] [] F (st2 (up2 A (o + 4) S) (o + 4) ((x :: r).length : Int) v) R := by
          intro v hv
          rw [up2_st2]
          have := nx (u1 S ((x :: r).length : Int) v) (v :: r) (vI 0) (by subst hv; simp [ev1]) (SR.push hs.2 (by omega)) (by simpa using hm) (by simp at hn; omega)
          simpa using this
        refine ⟨fun h0 => ?_, fun h0 => ?_⟩
        · intro g hg; subst hg; exact fin _ (by rw [if_neg h0])
        · intro g hg; subst hg; exact fin _ (by rw [if_pos h0])
    · rw [if_neg c16] at hm
      refine ⟨fun _ => ?_, fun hx => absurd hx c16⟩
      -- a push of v at place st.length + 1
      have psh : ∀ v : Int, (0 ≤ c ∨ isNm c) → ev1 d a w h c st = v :: st → st.length < 40 ∧ m = st.length + 1 ∧ G X (k + 1) m_X3_work Q 184 [vA o, vI l, vI d, vI a, vI w, vI h, vI (min ((st.length : Int) + 1) 40), vI i, vI c] [] F (st2 (up2 A (o + 4) S) (o + 4) (min ((st.length : Int) + 1) 40) v) R := by
        intro v hv he
        rw [if_pos hv] at hm
        by_cases h40 : st.length < 40
        · rw [if_pos h40] at hm
          have hm : st.length + 1 = m := by simpa using hm
          refine ⟨h40, hm.symm, ?_⟩
          have e5 : min ((st.length : Int) + 1) 40 = ((v :: st).length : Int) := by simp; omega
          rw [up2_st2, e5]
          exact nx _ (v :: st) (vI 0) he (SR.push hs (by simp)) (by simpa using hm) (by omega)
        · rw [if_neg h40] at hm; cases hm
      have pnm : isNm c → G X (k + 1) m_X3_work Q 184 [vA o, vI l, vI d, vI a, vI w, vI h, vI (min ((st.length : Int) + 1) 40), vI i, vI c] [] F (st2 (up2 A (o + 4) S) (o + 4) (min ((st.length : Int) + 1) 40) (nmd (-c) d a w h)) R := fun hn => (psh _ (Or.inr hn) (by
        have : ¬ 0 ≤ c := by unfold isNm at hn; omega
        simp [ev1, c16, this, hn])).2.2
      have bin : ¬ (0 ≤ c ∨ isNm c) → 2 ≤ st.length ∧ ∀ v, v = wrt (-c) (S (max ((st.length : Int) - 1) 0)) (S (max ((st.length : Int) - 1) 0 + 1)) → G X (k + 1) m_X3_work Q 184 [vA o, vI l, vI d, vI a, vI w, vI h, vI (max ((st.length : Int) - 1) 0), vI i, vI c] [] F (st2 (up2 A (o + 4) S) (o + 4) (max ((st.length : Int) - 1) 0) v) R := by
        intro hb
        rw [if_neg hb] at hm
        by_cases h2 : st.length < 2
        · rw [if_pos h2] at hm; cases hm
        · rw [if_neg h2] at hm
          refine ⟨by omega, ?_⟩
          match st, hm, hs, nx, hn, h2 with
          | [_], _, _, _, _, h2 => exact absurd (by simp) h2
          | y :: x :: r, hm, hs, nx, hn, h2 =>
            intro v hv
            have e6 : (((y :: x :: r).length : Int)) = r.length + 2 := by simp; omega
            have hy := hs.1
            have hx := hs.2.1
            simp at hy hx hm
            have e5 : max (((y :: x :: r).length : Int) - 1) 0 = (r.length : Int) + 1 := by omega
            rw [e5] at hv ⊢
            rw [hx, hy] at hv
            rw [up2_st2]
            have := nx (u1 S ((r.length : Int) + 1) v) (v :: r) (vI 0) (by subst hv; simp only [ev1, c16, if_false]; rw [if_neg (fun q => hb (Or.inl q)), if_neg (fun q => hb (Or.inr q))]) (SR.push hs.2.2 (by simp)) (by simpa using hm) (by simp at hn; omega)
            simpa using this
      refine ⟨fun hneg => ?_, fun hpos => ?_⟩
      · refine ⟨fun h3 => ?_, fun h3 => ?_⟩
        · have hn : isNm c := Or.inl h3
          have := (psh _ (Or.inr hn) (by
            have : ¬ 0 ≤ c := by omega
            simp [ev1, c16, this, hn]; rfl)).1
          refine ⟨by omega, fun g hg => ?_⟩
          subst hg
          refine ⟨by omega, w_named ?_⟩
          refine b_X3_work_141 ho ks ls ⟨by omega, by omega, fun g hg => ?_⟩
          subst hg; exact pnm hn
        · refine ⟨fun h17 => ?_, fun h17 => ?_⟩
          · have hb := bin (by unfold isNm; omega)
            refine ⟨by omega, fun g hg => ?_⟩
            subst hg
            refine ⟨by unfold isOp at hop1; omega, by omega, by omega, by omega, by omega, by omega, w_worth ?_⟩
            refine b_X3_work_183 ho ks ls ⟨by omega, by omega, fun g hg => ?_⟩
            subst hg; exact hb.2 _ rfl
          · refine ⟨fun h19 => ?_, fun h19 => ?_⟩
            · have hb := bin (by unfold isNm; omega)
              refine ⟨by omega, fun g hg => ?_⟩
              subst hg
              refine ⟨by unfold isOp at hop1; omega, by omega, by omega, by omega, by omega, by omega, w_worth ?_⟩
              refine b_X3_work_183 ho ks ls ⟨by omega, by omega, fun g hg => ?_⟩
              subst hg; exact hb.2 _ rfl
            · have hn : isNm c := Or.inr (by omega)
              have := (psh _ (Or.inr hn) (by
                have : ¬ 0 ≤ c := by omega
                simp [ev1, c16, this, hn]; rfl)).1
              refine ⟨by omega, fun g hg => ?_⟩
              subst hg
              refine ⟨by omega, w_named ?_⟩
              refine b_X3_work_141 ho ks ls ⟨by omega, by omega, fun g hg => ?_⟩
              subst hg; exact pnm hn
      · have h0 : 0 ≤ c := by omega
        have := psh c (Or.inl h0) (by simp [ev1, c16, h0])
        refine ⟨by omega, fun g hg => ?_⟩
        subst hg
        refine ⟨by omega, by omega, fun g hg => ?_⟩
        subst hg; exact this.2.2

/-- what a class's Laws at l say, as functions -/
def lawV (lo hi dflt : Int) (cs : Option (List Int)) (d a w h : Int) : Int := match cs with
  | none => max lo (min hi dflt)
  | some cs => max lo (min hi (evr d a w h cs))
def LwF (C : Nat → Option (List Int)) : Nat → Lw4 := fun i d a w h =>
  match i with
  | 0 => lawV 1 999 (100 + a) (C 0) d a w h
  | 1 => lawV 0 30 2 (C 1) d a w h
  | _ => lawV 0 999 0 (C 2) d a w h
theorem LwF_ok {C : Nat → Option (List Int)} : WFL (LwF C) := by
  intro a b c d
  simp only [LwF, lawV]
  refine ⟨?_, ?_, ?_, ?_, ?_, ?_⟩ <;> split <;> omega
/-- law i of the class's Laws at o -/
def CL1 (o : Int) (A : Fn2) (i : Int) : Option (List Int) → Prop
  | none => A (o + 3) i ≤ 0
  | some cs => 0 < A (o + 3) i ∧ A (o + 3) i ≤ 300 ∧ 0 ≤ A (o + 2) i ∧ A (o + 2) i + cs.length = A (o + 3) i ∧ CR (A (o + 1)) (A (o + 2) i) cs ∧ Wfc cs
def CLw (o : Int) (A : Fn2) (C : Nat → Option (List Int)) : Prop := CL1 o A 0 (C 0) ∧ CL1 o A 1 (C 1) ∧ CL1 o A 2 (C 2)
theorem w_work {X : Int × (Int → Int)} {k : Nat} {Q : Vv → Fn2 → Fn2 → Fn2 → Prop} {F A R : Fn2} {o l d a w h : Int} {cs : List Int} (hR : RS R) (ho : At_Laws o) (hl0 : 0 ≤ l) (hl : l < 3) (hc : CL1 o A l (some cs)) (hq : ∀ S', Q (vI (evr d a w h cs)) F (up2 A (o + 4) S') R) : Wp X (k + 2) m_X3_work [vA o, vI l, vI d, vI a, vI w, vI h] F A R Q := by
  obtain ⟨c1, c2, c3, c4, c5, c6⟩ := hc
  refine Wp.of [vA o, vI l, vI d, vI a, vI w, vI h, vN, vN, vN] rfl rfl rfl (b_X3_work_0 hR ho ⟨hl0, hl, fun g hg => ?_⟩)
  subst hg
  have := w_workL (X := X) (k := k) (Q := Q) (F := F) (A := A) (d := d) (a := a) (w := w) (h := h) hR ho hl0 hl c2 cs [] (A (o + 4)) (A (o + 2) l) vN c3 c4 c5 trivial c6.1 c6.2 (by simp) hq
  rw [up2_id] at this
  exact this
theorem w_boil {X : Int × (Int → Int)} {k : Nat} {Q : Vv → Fn2 → Fn2 → Fn2 → Prop} {F A R : Fn2} {o d a w h : Int} {C : Nat → Option (List Int)} (hR : RS R) (ho : At_Laws o) (hc : CLw o A C) (ha : 0 ≤ a) (ha' : a ≤ 1000000) (hq : ∀ S', Q (vI (LwF C 0 d a w h)) F (up2 A (o + 4) S') R) : Wp X (k + 3) m_X3_boil [vA o, vI d, vI a, vI w, vI h] F A R Q := by
  have h0 := hc.1
  refine Wp.of [vA o, vI d, vI a, vI w, vI h, vN] rfl rfl rfl (b_X3_boil_0 hR ho ⟨fun hn => ⟨by omega, fun g hg => ?_⟩, fun hp => ?_⟩)
  · subst hg
    have := hq (A (o + 4))
    rw [up2_id] at this
    cases e : C 0 with
    | none => simpa [LwF, lawV, e] using this
    | some cs => rw [e] at h0; have := h0.1; omega
  · cases e : C 0 with
    | none => rw [e] at h0; have : A (o + 3) 0 ≤ 0 := h0; omega
    | some cs =>
      rw [e] at h0
      refine w_work hR ho (by omega) (by omega) h0 fun S' => b_X3_boil_19 ho ?_
      simpa [LwF, lawV, e] using hq S'
theorem w_lift {X : Int × (Int → Int)} {k : Nat} {Q : Vv → Fn2 → Fn2 → Fn2 → Prop} {F A R : Fn2} {o d a w h : Int} {C : Nat → Option (List Int)} (hR : RS R) (ho : At_Laws o) (hc : CLw o A C) (hq : ∀ S', Q (vI (LwF C 1 d a w h)) F (up2 A (o + 4) S') R) : Wp X (k + 3) m_X3_lift [vA o, vI d, vI a, vI w, vI h] F A R Q := by
  have h0 := hc.2.1
  refine Wp.of [vA o, vI d, vI a, vI w, vI h, vN] rfl rfl rfl (b_X3_lift_0 hR ho ⟨fun hn => ?_, fun hp => ?_⟩)
  · have := hq (A (o + 4))
    rw [up2_id] at this
    cases e : C 1 with
    | none => simpa [LwF, lawV, e] using this
    | some cs => rw [e] at h0; have := h0.1; omega
  · cases e : C 1 with
    | none => rw [e] at h0; have : A (o + 3) 1 ≤ 0 := h0; omega
    | some cs =>
      rw [e] at h0
      refine w_work hR ho (by omega) (by omega) h0 fun S' => b_X3_lift_19 ho ?_
      simpa [LwF, lawV, e] using hq S'
theorem w_cool {X : Int × (Int → Int)} {k : Nat} {Q : Vv → Fn2 → Fn2 → Fn2 → Prop} {F A R : Fn2} {o d a w h : Int} {C : Nat → Option (List Int)} (hR : RS R) (ho : At_Laws o) (hc : CLw o A C) (hq : ∀ S', Q (vI (LwF C 2 d a w h)) F (up2 A (o + 4) S') R) : Wp X (k + 3) m_X3_cool [vA o, vI d, vI a, vI w, vI h] F A R Q := by
  have h0 := hc.2.2
  refine Wp.of [vA o, vI d, vI a, vI w, vI h, vN] rfl rfl rfl (b_X3_cool_0 hR ho ⟨fun hn => ?_, fun hp => ?_⟩)
  · have := hq (A (o + 4))
    rw [up2_id] at this
    cases e : C 2 with
    | none => simpa [LwF, lawV, e] using this
    | some cs => rw [e] at h0; have := h0.1; omega
  · cases e : C 2 with
    | none => rw [e] at h0; have : A (o + 3) 2 ≤ 0 := h0; omega
    | some cs =>
      rw [e] at h0
      refine w_work hR ho (by omega) (by omega) h0 fun S' => b_X3_cool_19 ho ?_
      simpa [LwF, lawV, e] using hq S'
