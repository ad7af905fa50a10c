/-! THE REFERENCE READS A LAW, 2: a unit, what is behind it, all of it -/
/-- some token is told -/
abbrev TkE (g : Int → Int) (n : Int) (F : Fn2) : Prop := ∃ p, 0 ≤ p ∧ p ≤ n ∧ TkX g n p F
theorem x_wrongL {X : Int × (Int → Int)} {k : Nat} {Q : Vv → Fn2 → Fn2 → Fn2 → Prop} {F A R : Fn2} {g : Int → Int} {n p : Int} (hk : TkX g n p F) (hg : F 373 4 = 0) (h5 : F 373 5 = -1) (hp : 0 ≤ p) (hpn : p ≤ n) (hq : ∀ F', TkE g n F' → rfs flL g n p 2 = flL (F' 373 4) (F' 373 5) → 0 < F' 373 4 → FX4 F F' → Q vN F' A R) : Wp X (k + 2) m_X11_wrong [vA 373] F A R Q :=
  x_wrong (k := k) (fl := flL) (rs := rfs flL g n p 2) (rfs flL g n p 2) ⟨hp, hpn, hk, Or.inl ⟨hg, rfl, h5⟩⟩ (fun F' e1 e2 e3 => hq F' ⟨p, e1.1, e1.2.1, e1.2.2.1⟩ (by rcases e1.2.2.2 with h | h; omega; exact h.2) e2 e3)
theorem x_mustL {X : Int × (Int → Int)} {k : Nat} {Q : Vv → Fn2 → Fn2 → Fn2 → Prop} {F A R : Fn2} {g : Int → Int} {n p K s : Int} (ht : TxX g n A R) (hk : TkX g n p F) (hg : F 373 4 = 0) (h5 : F 373 5 = -1) (hp : 0 ≤ p) (hpn : p ≤ n) (hb : s ≠ 0 ↔ tK g n p = K) (hq1 : tK g n p = K → ∀ F', TkX g n (tE g n p) F' → F' 373 4 = 0 → F' 373 5 = -1 → FX4 F F' → Q vN F' A R) (hq0 : tK g n p ≠ K → ∀ F', TkE g n F' → rfs flL g n p 2 = flL (F' 373 4) (F' 373 5) → 0 < F' 373 4 → FX4 F F' → Q vN F' A R) : Wp X (k + 3) m_X11_must [vA 373, vI s] F A R Q := by
  refine x_must (k := k) (fl := flL) (rs := pTk flL g n K p fun q => dnL q [] 0) (f := fun q => dnL q [] 0) ht ⟨hp, hpn, hk, Or.inl ⟨hg, rfl, h5⟩⟩ hb (fun F' p' e1 e2 e3 => ?_)
  obtain ⟨e0, e0', ek, e⟩ := e1
  by_cases z : tK g n p = K
  · have er : (pTk flL g n K p fun q => dnL q [] 0) = dnL (tE g n p) [] 0 := by unfold pTk; rw [if_pos z]
    rw [er] at e
    rcases e with ⟨a, b, c⟩ | ⟨a, b⟩
    · have : tE g n p = p' := congrArg (fun x : LR => x.2.2.1) b
      rw [← this] at ek
      exact hq1 z F' ek a c e2.1
    · have : (0 : Int) = F' 373 4 := congrArg Prod.fst b
      omega
  · have er : (pTk flL g n K p fun q => dnL q [] 0) = rfs flL g n p 2 := by unfold pTk; rw [if_neg z]
    rw [er] at e
    rcases e with ⟨a, b, c⟩ | ⟨a, b⟩
    · exact absurd (e3 a) z
    · exact hq0 z F' ⟨p', e0, e0', ek⟩ b a e2.1
theorem x_cmpdL {X : Int × (Int → Int)} {k : Nat} {Q : Vv → Fn2 → Fn2 → Fn2 → Prop} {F A R : Fn2} (hR : RS R) : ∀ (s : Pl), PR A s → okP s → s.length ≤ 48 → Q (vI (if cmpd s = true then 1 else 0)) F A R → G X k m_X11_isCompared Q 7 [vA 373, vI ((s.length : Int) - 1)] [] F A R
  | [], _, h, _, _ => h.elim
  | (w, c) :: s, hP, hO, hl, hq => by
    have e : ((((w, c) :: s : Pl).length : Nat) : Int) - 1 = s.length := by show ((s.length + 1 : Nat) : Int) - 1 = _; omega
    have l : ((((w, c) :: s : Pl).length : Nat) : Int) = s.length + 1 := rfl
    rw [e]
    have hO' : w = 8 ∧ s = [] ∨ 1 ≤ w ∧ w ≤ 7 ∧ okP s := hO
    refine b_X11_isCompared_7 hR ⟨by omega, by omega, ?_⟩
    rw [hP.1]
    have hc : cmpd ((w, c) :: s) = if w = 5 ∨ w = 6 then cmpd s else decide (w = 4) := rfl
    rw [hc] at hq
    have go : w = 5 ∨ w = 6 → G X k m_X11_isCompared Q 7 [vA 373, vI ((s.length : Int) + -1)] [] F A R := fun hw => by
      rw [if_pos hw] at hq
      have hs : okP s := by rcases hO' with z | z; omega; exact z.2.2
      exact x_cmpdL hR s hP.2.2 hs (by omega) hq
    refine ⟨fun h5 => ⟨by omega, go (Or.inl h5)⟩, fun n5 => ⟨fun n6 => ?_, fun h6 => ⟨by omega, go (Or.inr h6)⟩⟩⟩
    rw [if_neg (show ¬ (w = 5 ∨ w = 6) by omega)] at hq
    refine ⟨fun n4 => ?_, fun h4 => ?_⟩
    · rw [decide_eq_false n4] at hq; exact hq
    · rw [decide_eq_true h4] at hq; exact hq
theorem x_cmpd {X : Int × (Int → Int)} {k : Nat} {Q : Vv → Fn2 → Fn2 → Fn2 → Prop} {F A R : Fn2} {s : Pl} (hR : RS R) (h40 : F 373 40 = s.length) (hP : PR A s) (hO : okP s) (hl : s.length ≤ 48) (hq : Q (vI (if cmpd s = true then 1 else 0)) F A R) : Wp X (k + 1) m_X11_isCompared [vA 373] F A R Q := by
  refine Wp.of [vA 373, vN] rfl rfl rfl (b_X11_isCompared_0 ?_)
  rw [h40]
  refine ⟨by omega, fun g1 hg1 => ?_⟩
  subst hg1
  exact x_cmpdL hR s hP hO hl hq
theorem okP_c {w c : Int} {s : Pl} (h : okP ((w, c) :: s)) (hw : w ≠ 8) : 1 ≤ w ∧ w ≤ 7 ∧ okP s := by
  have h' : w = 8 ∧ s = [] ∨ 1 ≤ w ∧ w ≤ 7 ∧ okP s := h
  rcases h' with z | z
  · exact absurd z.1 hw
  · exact z
/-- what gives way goes into the code -/
theorem x_popL {X : Int × (Int → Int)} {k : Nat} {Q : Vv → Fn2 → Fn2 → Fn2 → Prop} {R : Fn2} {g : Int → Int} {n p r u : Int} {F0 A0 : Fn2} (hR : RS R) (hr0 : 0 ≤ r) (hr6 : r ≤ 6) (sE : Pl) (csE : List Int) (hqE : ∀ F' A', XEs g n false p sE csE u F' A' → XFr F0 A0 F' A' → G X (k + 1) m_X11_behind Q 104 [vA 373, vI r] [] F' A' R) : ∀ (s : Pl) (cs : List Int) (F A : Fn2), n ≤ 300 → XEs g n false p s cs u F A → popW r s cs = (sE, csE) → XFr F0 A0 F A → G X (k + 1) m_X11_behind Q 23 [vA 373, vI r] [] F A R
  | [], _, _, _, _, h, _, _ => h.2.2.2.1.elim
  | (w, c) :: s, cs, F, A, hn, h, hE, hF => by
    have hl := h.len
    obtain ⟨⟨t1, t2, t3, t4, t5⟩, ⟨p1, p2, p3⟩, hC, hO, hw7, hnn, hln, hu, hu4⟩ := id h
    have l : ((((w, c) :: s : Pl).length : Nat) : Int) = s.length + 1 := rfl
    have top := hO.top p3
    have e : ((((w, c) :: s : Pl).length : Nat) : Int) - 1 = s.length := by omega
    rw [e] at top
    have tw : topW ((w, c) :: s) = w := rfl
    rw [tw] at top
    have stop : ¬ (w ≤ 6 ∧ r ≤ w) → G X (k + 1) m_X11_behind Q 104 [vA 373, vI r] [] F A R := fun hno => by
      have e2 : popW r ((w, c) :: s) cs = ((w, c) :: s, cs) := if_neg hno
      rw [e2] at hE
      have e3 := congrArg Prod.fst hE
      have e4 := congrArg Prod.snd hE
      have e3' : ((w, c) :: s : Pl) = sE := e3
      have e4' : cs = csE := e4
      rw [e3', e4'] at h
      exact hqE F A h hF
    refine b_X11_behind_23 hR ?_
    rw [p1, e, top.1]
    refine ⟨by omega, by omega, by omega, fun h6 => stop (by omega), fun h6 => ⟨fun hlt => stop (by omega), fun hge F1 hF1 => ?_⟩⟩
    have hok := okP_c hO (by omega)
    have x1 := st373 hF1
    have e40 : F1 373 40 = s.length := by rw [hF1, st2_s, u1_s]
    rw [e40, top.1]
    have e2 : popW r ((w, c) :: s) cs = popW r s (cs ++ [c]) := if_pos (by omega)
    rw [e2] at hE
    have rc := p3.2.1 (by omega)
    have cl : cs.length < 500 := by omega
    have wd : wth ((w, c) :: s) = (if w = 3 ∨ w = 7 then 1 else 0) + wth s := rfl
    have nd : nn ((w, c) :: s) = (if w = 3 then 0 else 1) + nn s := rfl
    have nb := nn_b s
    have wb := wth_b s
    have go : ∀ F2 F3 A3 : Fn2, (∀ a f, a ≠ 373 ∨ f ≠ 39 ∧ f ≠ 40 → F2 a f = F a f) → F2 373 40 = s.length → F2 373 39 = wth s → F3 = st2 F2 373 37 (cs.length + 1) → XCd (cs ++ [c]) u F3 A3 → (∀ a, a ≠ 392 → a ≠ 393 → A3 a = A a) → (∀ i, i < 500 → A3 392 i = A 392 i ∧ A3 393 i = A 393 i) → G X (k + 1) m_X11_behind Q 101 [vA 373, vI r] [] F3 A3 R := by
      intro F2 F3 A3 z1 z2 z3 z4 z5 z6 z7
      have x3 := st373 z4
      have fr : ∀ a f, a ≠ 373 ∨ f ≠ 37 ∧ f ≠ 39 ∧ f ≠ 40 → F3 a f = F a f := fun a f h => by rw [x3 a f (by omega), z1 a f (by omega)]
      refine b_X11_behind_101 (x_popL hR hr0 hr6 sE csE hqE s (cs ++ [c]) F3 A3 hn ⟨⟨t1.e (fun f hf => fr 373 f (by omega)), by rw [fr 373 4 (by omega)]; exact t2, by rw [fr 373 5 (by omega)]; exact t3, t4, t5⟩, ⟨by rw [x3 373 40 (by omega)]; exact z2, by rw [x3 373 39 (by omega)]; exact z3, p3.2.2.e s (fun i _ _ => by rw [z6 394 (by decide) (by decide), z6 395 (by decide) (by decide)]; exact ⟨rfl, rfl⟩)⟩, z5, hok.2.2, by split at wd <;> omega, by split at nd <;> omega, ?_, hu, hu4⟩ hE (hF.trans ⟨fun a f hx => fr a f (by omega), fun a y1 y2 y3 y4 => z6 a y1 y2, z7⟩))
      rw [List.length_append]
      show ((cs.length + 1 : Nat) : Int) + s.length ≤ p + 1
      omega
    refine ⟨by omega, by omega, fun n3 => ?_, fun h3 => ?_⟩
    · refine x_step (k := k) (cs := cs) (u := u) hR (hC.e (x1 373 37 (by omega)) (x1 373 38 (by omega))) cl rc (fun F3 A3 y1 y2 y3 y4 => go F1 F3 A3 (fun a f hx => x1 a f (by omega)) e40 ?_ y1 y2 y3 y4)
      rw [x1 373 39 (by omega), p2, wd, if_neg (by omega)]; omega
    · rw [x1 373 39 (by omega), p2, wd, if_pos (Or.inl h3)]
      refine ⟨by omega, fun F2 hF2 => ?_⟩
      have x2 := st373 hF2
      rw [x2 373 40 (by omega), e40]
      refine ⟨by omega, by omega, x_step (k := k) (cs := cs) (u := u) hR (hC.e (by rw [x2 373 37 (by omega), x1 373 37 (by omega)]) (by rw [x2 373 38 (by omega), x1 373 38 (by omega)])) cl rc (fun F3 A3 y1 y2 y3 y4 => go F2 F3 A3 (fun a f hx => by rw [x2 a f (by omega), x1 a f (by omega)]) (by rw [x2 373 40 (by omega), e40]) ?_ y1 y2 y3 y4)⟩
      rw [hF2, st2_s, u1_s]; omega
theorem rcr_rop {K : Int} (h : 0 < rank K) : rop (-K) (if rank K = 2 then 38 else if rank K = 1 then 124 else K) 0 := by
  have rb := rank_no (K := K)
  obtain ⟨o1, o2, o3, o4, o5⟩ := rank_op (K := K)
  unfold rop
  by_cases h15 : K = 15
  · rw [if_pos (o3 h15)]; omega
  · by_cases h14 : K = 14
    · rw [if_neg (by rw [o4 h14]; decide), if_pos (o4 h14)]; omega
    · rw [if_neg (rb.2.2.1 h15), if_neg (rb.2.2.2.1 h14)]
      have : K = 42 ∨ K = 47 ∨ K = 43 ∨ K = 45 ∨ K = 60 ∨ K = 62 ∨ K = 61 := by
        by_cases z : K = 42 ∨ K = 47 ∨ K = 43 ∨ K = 45 ∨ K = 60 ∨ K = 62 ∨ K = 61
        · exact z
        · have b := rank_b K
          have r6 := rb.1 (by omega)
          have r5 := rb.2.1 (by omega)
          have r4 := rb.2.2.2.2 (by omega)
          have r2 := rb.2.2.1 h15
          have r1 := rb.2.2.2.1 h14
          omega
      omega
theorem popW_top {r : Int} : ∀ (s : Pl) (cs : List Int), okP s → ¬ (topW (popW r s cs).1 ≤ 6 ∧ r ≤ topW (popW r s cs).1)
  | [], _, h => h.elim
  | (w, c) :: s, cs, h => by
    by_cases z : w ≤ 6 ∧ r ≤ w
    · have e : popW r ((w, c) :: s) cs = popW r s (cs ++ [c]) := if_pos z
      rw [e]
      exact popW_top s _ (okP_c h (by omega)).2.2
    · have e : popW r ((w, c) :: s) cs = ((w, c) :: s, cs) := if_neg z
      rw [e]
      exact z
/-- a general push, a closing, an end -/
theorem Rn_behind {g : Int → Int} {n p u : Int} {s s' : Pl} {cs cs' : List Int} (h4 : ¬ (rank (tK g n p) = 4 ∧ cmpd s = true)) (e : popW (rank (tK g n p)) s cs = (s', cs')) : (0 < rank (tK g n p) → ∀ r, Rn g n true (tE g n p) ((rank (tK g n p), -tK g n p) :: s') cs' u r → Rn g n false p s cs u r) ∧ (rank (tK g n p) = 0 → topW s' = 7 → tK g n p = 41 → ∀ r, Rn g n false (tE g n p) s'.tail cs' u r → Rn g n false p s cs u r) ∧ (rank (tK g n p) = 0 → topW s' = 7 → tK g n p ≠ 41 → Rn g n false p s cs u (rfs flL g n p 2)) ∧ (rank (tK g n p) = 0 → topW s' ≠ 7 → Rn g n false p s cs u (dnL p cs' u)) := by
  have rw1 : ∀ m, run g n (m + 1) false p s cs u = if 0 < rank (tK g n p) then run g n m true (tE g n p) ((rank (tK g n p), -tK g n p) :: (popW (rank (tK g n p)) s cs).1) (popW (rank (tK g n p)) s cs).2 u else if topW (popW 0 s cs).1 = 7 then (if tK g n p = 41 then run g n m false (tE g n p) (popW 0 s cs).1.tail (popW 0 s cs).2 u else some (rfs flL g n p 2)) else some (dnL p (popW 0 s cs).2 u) := fun m => if_neg h4
  refine ⟨fun h0 r ⟨m, hm⟩ => ⟨m + 1, ?_⟩, fun h0 h7 hK r ⟨m, hm⟩ => ⟨m + 1, ?_⟩, fun h0 h7 hK => ⟨1, ?_⟩, fun h0 h7 => ⟨1, ?_⟩⟩
  · rw [rw1, if_pos h0, e]; exact hm
  · rw [h0] at e
    rw [rw1, if_neg (by omega), e, if_pos h7, if_pos hK]; exact hm
  · rw [h0] at e
    rw [rw1, if_neg (by omega), e, if_pos h7, if_neg hK]
  · rw [h0] at e
    rw [rw1, if_neg (by omega), e, if_neg h7]
theorem tE_b2 {g : Int → Int} {n p : Int} (h0 : 0 ≤ p) (h : p ≤ n) : 0 ≤ tE g n p ∧ tE g n p ≤ n := by
  have a := tA_b (g := g) h
  have e := tE_b (g := g) h
  omega
theorem x_behind {X : Int × (Int → Int)} {k : Nat} {Q : Vv → Fn2 → Fn2 → Fn2 → Prop} {F A R : Fn2} {g : Int → Int} {n p u : Int} {s : Pl} {cs : List Int} (ht : TxX g n A R) (hn : n ≤ 300) (h : XEs g n false p s cs u F A) (hq0 : ∀ F' A' v, TkE g n F' → Rn g n false p s cs u (flL (F' 373 4) (F' 373 5)) → 0 < F' 373 4 → XFr F A F' A' → Q (vI v) F' A' R)
    (hqG : ∀ F' A' b' p' s' cs' u', XEs g n b' p' s' cs' u' F' A' → p < p' → (∀ r, Rn g n b' p' s' cs' u' r → Rn g n false p s cs u r) → XFr F A F' A' → Q (vI (bI b')) F' A' R)
    (hqD : ∀ F' A' cs', F' 373 40 = 0 → TkX g n p F' → F' 373 4 = 0 → F' 373 5 = -1 → XCd cs' u F' A' → (cs'.length : Int) ≤ p → Rn g n false p s cs u (dnL p cs' u) → XFr F A F' A' → Q (vI 0) F' A' R) : Wp X (k + 4) m_X11_behind [vA 373] F A R Q := by
  have hR := ht.1
  obtain ⟨⟨t1, t2, t3, t4, t5⟩, ⟨p1, p2, p3⟩, hC, hO, hw7, hnn, hln, hu, hu4⟩ := id h
  have hl := h.len
  have rb := rank_b (tK g n p)
  refine Wp.of (k := k + 3) [vA 373, vN] rfl rfl rfl (b_X11_behind_0 (x_rank (k := k) ht t4 t5 t1 (b_X11_behind_4 ?_)))
  have go : ¬ (rank (tK g n p) = 4 ∧ cmpd s = true) → G X (k + 3) m_X11_behind Q 23 [vA 373, vI (rank (tK g n p))] [] F A R := by
    intro h4
    obtain ⟨r1, r2, r3, r4⟩ := Rn_behind (u := u) (s' := (popW (rank (tK g n p)) s cs).1) (cs' := (popW (rank (tK g n p)) s cs).2) h4 rfl
    refine x_popL (k := k + 2) (F0 := F) (A0 := A) hR rb.1 rb.2.1 (popW (rank (tK g n p)) s cs).1 (popW (rank (tK g n p)) s cs).2 (fun F1 A1 h1 f1 => ?_) s cs F A hn h rfl XFr.refl
    have htop := popW_top (r := rank (tK g n p)) s cs hO
    revert r1 r2 r3 r4 h1 htop
    generalize (popW (rank (tK g n p)) s cs).1 = s1
    generalize (popW (rank (tK g n p)) s cs).2 = c1
    intro r1 r2 r3 r4 h1 htop
    have hl1 := h1.len
    obtain ⟨⟨u1, u2, u3, _, _⟩, ⟨v1, v2, v3⟩, hC1, hO1, hw1, hnn1, hln1, _, _⟩ := id h1
    have top := hO1.top v3
    have ht1 := ht.xf f1
    have pos := hO1.pos
    have bF : bI false = 0 := rfl
    have bT : bI true = 1 := rfl
    refine b_X11_behind_104 hR ⟨fun hle => ?_, fun hpos => ?_⟩
    · have h0 : rank (tK g n p) = 0 := by omega
      rw [v1]
      refine ⟨by omega, fun F2 hF2 => ?_⟩
      have x2 := st373 hF2
      have e40 : F2 373 40 = (s1.length : Int) - 1 := by rw [hF2, st2_s, u1_s]
      rw [e40, top.1]
      have f2 : XFr F A F2 A1 := f1.trans (XFr.f hF2 (by decide))
      refine ⟨by omega, by omega, fun n7 => b_X11_behind_191 ?_, fun h7 => ?_⟩
      · -- the end
        have e1 : s1.length = 1 := by
          cases s1 with
          | nil => exact hO1.elim
          | cons x s1 =>
            obtain ⟨w, c⟩ := x
            have hO' : w = 8 ∧ s1 = [] ∨ 1 ≤ w ∧ w ≤ 7 ∧ okP s1 := hO1
            have tw : topW ((w, c) :: s1) = w := rfl
            rcases hO' with z | z
            · rw [z.2]; rfl
            · exfalso; rw [tw] at htop n7; omega
        refine hqD F2 A1 c1 (by rw [e40]; omega) (u1.e (fun f hf => x2 373 f (by omega))) (by rw [x2 373 4 (by omega)]; exact u2) (by rw [x2 373 5 (by omega)]; exact u3) (hC1.e (x2 373 37 (by omega)) (x2 373 38 (by omega))) (by omega) (r4 h0 n7) f2
      · cases s1 with
        | nil => exact hO1.elim
        | cons x s1 =>
          obtain ⟨w, c⟩ := x
          have tw : topW ((w, c) :: s1) = w := rfl
          have ok2 := okP_c hO1 (by omega)
          have l : ((((w, c) :: s1 : Pl).length : Nat) : Int) = s1.length + 1 := rfl
          have wd : wth ((w, c) :: s1) = (if w = 3 ∨ w = 7 then 1 else 0) + wth s1 := rfl
          have nd : nn ((w, c) :: s1) = (if w = 3 then 0 else 1) + nn s1 := rfl
          rw [if_pos (Or.inr (by omega))] at wd
          rw [if_neg (by omega)] at nd
          rw [x2 373 39 (by omega), v2]
          refine ⟨by have := wth_b s1; omega, fun F3 hF3 => ?_⟩
          have x3 := st373 hF3
          have k3 : TkX g n p F3 := u1.e (fun f hf => by rw [x3 373 f (by omega), x2 373 f (by omega)])
          have g3 : F3 373 4 = 0 := by rw [x3 373 4 (by omega), x2 373 4 (by omega)]; exact u2
          have g5 : F3 373 5 = -1 := by rw [x3 373 5 (by omega), x2 373 5 (by omega)]; exact u3
          have f3 : XFr F A F3 A1 := f2.trans (XFr.f hF3 (by decide))
          have mst : ∀ v : Int, (v ≠ 0 ↔ tK g n p = 41) → G X (k + 3) m_X11_behind Q 188 [vA 373, vI (rank (tK g n p))] [vI v, vA 373] F3 A1 R := fun v hv => by
            refine b_X11_behind_188 (x_mustL (k := k) ht1 k3 g3 g5 t4 t5 hv (fun hK F4 k4 g4 g45 f4 => b_X11_behind_191 ?_) (fun hK F4 e0 e1 e2 f4 => b_X11_behind_191 (hq0 F4 A1 0 e0 ?_ e2 (f3.trans f4.xf))))
            · have eg := tE_gt (g := g) t5 (show tK g n p ≠ 20 by omega)
              refine hqG F4 A1 false (tE g n p) s1 c1 u ⟨⟨k4, g4, g45, by omega, eg.2⟩, ⟨?_, ?_, v3.2.2⟩, hC1.e ?_ ?_, ok2.2.2, by omega, by omega, by omega, hu, hu4⟩ eg.1 (r2 h0 h7 hK) (f3.trans f4.xf)
              · rw [f4 373 40 (by omega), x3 373 40 (by omega), e40]; omega
              · rw [f4 373 39 (by omega), hF3, st2_s, u1_s]; omega
              · rw [f4 373 37 (by omega), x3 373 37 (by omega), x2 373 37 (by omega)]
              · rw [f4 373 38 (by omega), x3 373 38 (by omega), x2 373 38 (by omega)]
            · rw [← e1]; exact r3 h0 h7 hK
          exact x_is (k := k + 1) ht1 t4 t5 k3 (by decide) (fun hK => mst 1 ⟨fun _ => hK, fun _ => by decide⟩) (fun hK => mst 0 ⟨fun z => absurd rfl z, fun z => absurd z hK⟩)
    · have sg : ∀ v : Int, v = (if rank (tK g n p) = 2 then 38 else if rank (tK g n p) = 1 then 124 else tK g n p) → G X (k + 3) m_X11_behind Q 138 [vA 373, vI (rank (tK g n p))] [vI v, vI (rank (tK g n p)), vA 373] F1 A1 R := fun v hv => by
        have rr := rcr_rop hpos
        rw [← hv] at rr
        refine b_X11_behind_138 (x_put (k := k + 2) (s := s1) (c := -tK g n p) hR v1 v3 (by omega) (fun _ => rr) (fun F2 A2 hF2 P2 a2 => b_X11_behind_141 ?_))
        have x2 := st373 hF2
        have f2 : XFr F A F2 A2 := f1.trans ⟨fun a f hx => x2 a f (by omega), fun a _ _ y z => a2 a y z, fun i _ => by rw [a2 392 (by decide) (by decide), a2 393 (by decide) (by decide)]; exact ⟨rfl, rfl⟩⟩
        have eb := tE_b2 (g := g) t4 t5
        refine x_next (k := k + 1) (ht.xf f2) eb.1 eb.2 (by rw [x2 373 3 (by omega)]; exact u1.1) (by rw [x2 373 7 (by omega)]; exact u1.2.2.1) (fun F3 k3 g3 => b_X11_behind_145 ?_)
        have eg := tE_gt (g := g) t5 (show tK g n p ≠ 20 by intro z; rw [z] at hpos; exact absurd hpos (by decide))
        have wd : wth ((rank (tK g n p), -tK g n p) :: s1) = (if rank (tK g n p) = 3 ∨ rank (tK g n p) = 7 then 1 else 0) + wth s1 := rfl
        have nd : nn ((rank (tK g n p), -tK g n p) :: s1) = (if rank (tK g n p) = 3 then 0 else 1) + nn s1 := rfl
        have ld : (((((rank (tK g n p), -tK g n p) :: s1 : Pl).length) : Nat) : Int) = s1.length + 1 := rfl
        rw [if_neg (by omega)] at wd nd
        refine hqG F3 A2 true (tE g n p) ((rank (tK g n p), -tK g n p) :: s1) c1 u ⟨⟨k3, by rw [g3 373 4 (by omega), x2 373 4 (by omega)]; exact u2, by rw [g3 373 5 (by omega), x2 373 5 (by omega)]; exact u3, by omega, eg.2⟩, ⟨?_, ?_, P2⟩, ?_, Or.inr ⟨by omega, by omega, hO1⟩, by omega, by omega, by omega, hu, hu4⟩ eg.1 (r1 hpos) (f2.trans g3.x4.xf)
        · rw [g3 373 40 (by omega), hF2, st2_s, u1_s]; omega
        · rw [g3 373 39 (by omega), x2 373 39 (by omega), v2]; omega
        · obtain ⟨q1, q2, q3⟩ := hC1
          refine ⟨by rw [g3 373 37 (by omega), x2 373 37 (by omega)]; exact q1, by rw [g3 373 38 (by omega), x2 373 38 (by omega)]; exact q2, ?_⟩
          rw [a2 392 (by decide) (by decide), a2 393 (by decide) (by decide)]; exact q3
      refine ⟨fun n2 => ⟨fun n1 => ?_, fun e1 => sg 124 ?_⟩, fun e2 => sg 38 ?_⟩
      · refine x_sgn (k := k + 2) ht1 u1.1 (by rw [u1.2.1]; have := tA_b (g := g) t5; omega) (sg _ ?_)
        rw [u1.2.1, if_neg n2, if_neg n1]
        have hs : 23 < tK g n p := by
          have rn := rank_no (K := tK g n p)
          by_cases z : tK g n p = 42 ∨ tK g n p = 47 ∨ tK g n p = 43 ∨ tK g n p = 45 ∨ tK g n p = 60 ∨ tK g n p = 62 ∨ tK g n p = 61
          · omega
          · have r6 := rn.1 (by omega)
            have r5 := rn.2.1 (by omega)
            have r4 := rn.2.2.2.2 (by omega)
            have n15 : tK g n p ≠ 15 := fun z => n2 (rank_op.2.2.1 z)
            have n14 : tK g n p ≠ 14 := fun z => n1 (rank_op.2.2.2.1 z)
            omega
        have := tK_s hs
        unfold gz
        rw [if_pos this.2, this.1]
      · rw [if_neg n2, if_pos e1]
      · rw [if_pos e2]
  refine ⟨fun n4 => go (fun z => n4 z.1), fun e4 => x_cmpd (k := k + 2) hR p1 p3 hO (by omega) (b_X11_behind_14 ⟨fun hs => go (fun z => ?_), fun hs => ?_⟩)⟩
  · rw [if_pos z.2] at hs; exact absurd hs (by decide)
  · have hc : cmpd s = true := by
      by_cases z : cmpd s = true
      · exact z
      · rw [if_neg z] at hs; exact absurd rfl hs
    refine x_wrongL (k := k + 1) t1 t2 t3 t4 t5 (fun F' e0 e1 e2 e3 => b_X11_behind_21 (hq0 F' A 1 e0 ?_ e2 e3.xf))
    rw [← e1]
    exact ⟨1, if_pos ⟨e4, hc⟩⟩
