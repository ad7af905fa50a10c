/-! THE REFERENCE READS A LAW, 3: a unit, and the whole of it -/
theorem x_unit {X : Int × (Int → Int)} {k : Nat} {Q : Vv → Fn2 → Fn2 → Fn2 → Prop} {F A R : Fn2} {g : Int → Int} {n p u : Int} {s : Pl} {cs : List Int} (ht : TxX g n A R) (hn : n ≤ 300) (h : XEs g n true p s cs u F A) (hq0 : ∀ F' A' v, TkE g n F' → Rn g n true p s cs u (flL (F' 373 4) (F' 373 5)) → 0 < F' 373 4 → XFr F A F' A' → Q (vI v) F' A' R)
    (hqG : ∀ F' A' b' p' s' cs' u', XEs g n b' p' s' cs' u' F' A' → p < p' → (∀ r, Rn g n b' p' s' cs' u' r → Rn g n true p s cs u r) → XFr F A F' A' → Q (vI (bI b')) F' A' R) : Wp X (k + 4) m_X11_unit [vA 373] F A R Q := by
  have hR := ht.1
  obtain ⟨⟨t1, t2, t3, t4, t5⟩, ⟨p1, p2, p3⟩, hC, hO, hw7, hnn, hln, hu, hu4⟩ := id h
  have hl := h.len
  have pos := hO.pos
  have top := hO.top p3
  have bT : bI true = 1 := rfl
  have bF : bI false = 0 := rfl
  refine Wp.of (k := k + 3) [vA 373, vN, vN, vN, vN, vN] rfl rfl rfl (b_X11_unit_0 hR ?_)
  rw [p1, top.1]
  -- behind the checks
  have W : ∀ x1 x2 x3 x4 : Int, noU (tK g n p) s u → Wp X (k + 3) m_X11_wrong [vA 373] F A R (fun v F A R => G X (k + 3) m_X11_unit Q 121 [vA 373, vI x1, vI x2, vI x3, vI x4, vN] [] F A R) := fun x1 x2 x3 x4 hno =>
    x_wrongL (k := k + 1) t1 t2 t3 t4 t5 (fun F' e0 e1 e2 e3 => b_X11_unit_121 (x_good (k := k + 2) (fun z => by omega) (fun _ => b_X11_unit_125 ⟨fun z => absurd rfl z, fun _ => hq0 F' A 1 e0 (by rw [← e1]; exact Rn_no hno) e2 e3.xf⟩)))
  have O : ∀ x1 x2 x3 x4 : Int, (x2 = 1 ∧ bgn s ∧ tK g n p = 16 ∨ x2 = 0 ∧ ¬ (bgn s ∧ tK g n p = 16)) → (x3 = 1 ∧ tK g n p = 40 ∨ x3 = 0 ∧ tK g n p ≠ 40) → x4 = wdX (tK g n p) → ¬ noU (tK g n p) s u → G X (k + 3) m_X11_unit Q 121 [vA 373, vI x1, vI x2, vI x3, vI x4, vN] [] F A R := by
    intro x1 x2 x3 x4 h2 h3 h4 hno
    have eb := tE_b2 (g := g) t4 t5
    have nx : ∀ (F1 : Fn2) (x5 : Int), (∀ a f, a ≠ 373 ∨ f ≠ 38 → F1 a f = F a f) → (∀ F2, TkX g n (tE g n p) F2 → F2 373 4 = 0 → F2 373 5 = -1 → FX4 F1 F2 → G X (k + 3) m_X11_unit Q 167 [vA 373, vI x1, vI x2, vI x3, vI x4, vI x5] [] F2 A R) → Wp X (k + 3) m_X11_next [vA 373] F1 A R (fun v F A R => G X (k + 3) m_X11_unit Q 167 [vA 373, vI x1, vI x2, vI x3, vI x4, vI x5] [] F A R) := fun F1 x5 f1 hh =>
      x_next (k := k + 1) ht eb.1 eb.2 (by rw [f1 373 3 (by omega)]; exact t1.1) (by rw [f1 373 7 (by omega)]; exact t1.2.2.1) (fun F2 k2 g2 => hh F2 k2 (by rw [g2 373 4 (by omega), f1 373 4 (by omega)]; exact t2) (by rw [g2 373 5 (by omega), f1 373 5 (by omega)]; exact t3) g2.x4)
    have n20 : tK g n p ≠ 20 := fun z => hno (Or.inl ⟨fun y => by omega, Or.inl ⟨fun y => by omega, by omega, by omega⟩⟩)
    have eg := tE_gt (g := g) t5 n20
    have wsn : bgn s ∧ tK g n p = 16 ∨ tK g n p = 40 → wth s < 7 := fun z => by
      by_cases y : wth s = 7
      · exact absurd (Or.inr ⟨z, y⟩) hno
      · omega
    -- a pile with one more
    have psh : ∀ (w : Int) (F2 : Fn2) (u' v' : Int) (c : Int), (w = 3 ∨ w = 7) → (w = 3 → c = -16) → TkX g n (tE g n p) F2 → F2 373 4 = 0 → F2 373 5 = -1 → (∀ a f, a ≠ 373 ∨ (f < 4 ∨ 10 < f) ∧ f ≠ 38 → F2 a f = F a f) → F2 373 38 = u' → u ≤ u' → u' ≤ 40 → nn ((w, c) :: s) ≤ u' + 1 → wth s < 7 → (∀ r, Rn g n true (tE g n p) ((w, c) :: s) cs u' r → Rn g n true p s cs u r) → Wp X (k + 3) m_X11_put [vA 373, vI w, vI 126] F2 A R (fun v F A R => G X (k + 3) m_X11_unit Q 191 [vA 373, vI x1, vI x2, vI x3, vI x4, vI v'] [] F A R) := by
      intro w F2 u' v' c hw hcw k2 g4 g5 f2 f38 huu hu40 hnn' hw6 hrn
      have e40 : F2 373 40 = s.length := by rw [f2 373 40 (by omega)]; exact p1
      refine x_put (k := k + 2) (s := s) (c := c) hR e40 p3 (by omega) (fun z => ?_) (fun F3 A3 hF3 P3 a3 => b_X11_unit_191 ?_)
      · rw [hcw (by omega)]; unfold rop; omega
      · have x3 := st373 hF3
        rw [x3 373 39 (by omega), f2 373 39 (by omega), p2]
        have wb := wth_b s
        refine ⟨by omega, fun F4 hF4 => ?_⟩
        have x4 := st373 hF4
        have ld : (((((w, c) :: s : Pl).length) : Nat) : Int) = s.length + 1 := rfl
        have wd : wth ((w, c) :: s) = (if w = 3 ∨ w = 7 then 1 else 0) + wth s := rfl
        rw [if_pos hw] at wd
        refine hqG F4 A3 true (tE g n p) ((w, c) :: s) cs u' ⟨⟨k2.e (fun f hf => by rw [x4 373 f (by omega), x3 373 f (by omega)]), by rw [x4 373 4 (by omega), x3 373 4 (by omega)]; exact g4, by rw [x4 373 5 (by omega), x3 373 5 (by omega)]; exact g5, eb.1, eb.2⟩, ⟨?_, ?_, P3⟩, ⟨?_, ?_, ?_⟩, Or.inr ⟨by omega, by omega, hO⟩, by omega, hnn', by omega, by omega, hu40⟩ eg.1 hrn ⟨fun a f hx => by rw [x4 a f (by omega), x3 a f (by omega), f2 a f (by omega)], fun a _ _ y z => a3 a y z, fun i _ => by rw [a3 392 (by decide) (by decide), a3 393 (by decide) (by decide)]; exact ⟨rfl, rfl⟩⟩
        · rw [x4 373 40 (by omega), hF3, st2_s, u1_s]; omega
        · rw [hF4, st2_s, u1_s]; omega
        · rw [x4 373 37 (by omega), x3 373 37 (by omega), f2 373 37 (by omega)]; exact hC.1
        · rw [x4 373 38 (by omega), x3 373 38 (by omega)]; exact f38
        · rw [a3 392 (by decide) (by decide), a3 393 (by decide) (by decide)]; exact hC.2.2
    refine b_X11_unit_121 (x_good (k := k + 2) (fun _ => b_X11_unit_125 ⟨fun _ => ?_, fun z => absurd z (by decide)⟩) (fun z => absurd t2 z))
    rw [hC.2.1]
    refine ⟨fun e2 => ?_, fun n2 => ?_⟩
    · -- a unit
      have hnot : ¬ (bgn s ∧ tK g n p = 16) := by omega
      have hu40 : u ≠ 40 := fun z => hno (Or.inl ⟨hnot, Or.inr z⟩)
      refine ⟨by omega, fun F1 hF1 => ?_⟩
      have f1 := st373 hF1
      have e38 : F1 373 38 = u + 1 := by rw [hF1, st2_s, u1_s]
      have fin : ∀ (x5 : Int) (F2 : Fn2), (tK g n p ≠ 40 → rop (if isU (tK g n p) then -tK g n p else tV g n p) (if x4 = 0 then 110 else x4) x5) → TkX g n (tE g n p) F2 → F2 373 4 = 0 → F2 373 5 = -1 → FX4 F1 F2 → G X (k + 3) m_X11_unit Q 167 [vA 373, vI x1, vI x2, vI x3, vI x4, vI x5] [] F2 A R := by
        intro x5 F2 hrop k2 g4 g5 g2
        have fr : ∀ a f, a ≠ 373 ∨ (f < 4 ∨ 10 < f) ∧ f ≠ 38 → F2 a f = F a f := fun a f hx => by rw [g2 a f (by omega), f1 a f (by omega)]
        have e38' : F2 373 38 = u + 1 := by rw [g2 373 38 (by omega)]; exact e38
        have stp : ∀ x : Int, x = (if x4 = 0 then 110 else x4) → tK g n p ≠ 40 → Wp X (k + 3) m_X11_step [vA 373, vI x, vI x5] F2 A R (fun v F A R => G X (k + 3) m_X11_unit Q 221 [vA 373, vI x1, vI x2, vI x3, vI x4, vI x5] [] F A R) := fun x hx h40 => by
          have hr := hrop h40
          rw [← hx] at hr
          refine x_step (k := k + 2) (cs := cs) (u := u + 1) hR ⟨by rw [fr 373 37 (by omega)]; exact hC.1, e38', hC.2.2⟩ (by omega) hr (fun F3 A3 y1 y2 y3 y4 => b_X11_unit_221 ?_)
          have x3 := st373 y1
          refine hqG F3 A3 false (tE g n p) s (cs ++ [if isU (tK g n p) then -tK g n p else tV g n p]) (u + 1) ⟨⟨k2.e (fun f hf => x3 373 f (by omega)), by rw [x3 373 4 (by omega)]; exact g4, by rw [x3 373 5 (by omega)]; exact g5, eb.1, eb.2⟩, ⟨by rw [x3 373 40 (by omega), fr 373 40 (by omega)]; exact p1, by rw [x3 373 39 (by omega), fr 373 39 (by omega)]; exact p2, p3.e s (fun i _ _ => by rw [y3 394 (by decide) (by decide), y3 395 (by decide) (by decide)]; exact ⟨rfl, rfl⟩)⟩, y2, hO, hw7, by omega, ?_, by omega, by omega⟩ eg.1 (fun r hr => Rn_u hno hnot h40 hr) ⟨fun a f hx => by rw [x3 a f (by omega), fr a f (by omega)], fun a y z _ _ => y3 a y z, y4⟩
          rw [List.length_append]
          show ((cs.length + 1 : Nat) : Int) + s.length ≤ tE g n p + 1
          omega
        refine b_X11_unit_167 ⟨fun z => absurd e2 z, fun _ => ⟨fun e3 => ⟨fun n4 => stp x4 ?_ (by omega), fun e4 => stp 110 ?_ (by omega)⟩, fun n3 => ⟨fun _ => ?_, fun z => absurd e2 z⟩⟩⟩
        · rw [if_neg n4]
        · rw [if_pos e4]
        · have h40 : tK g n p = 40 := by omega
          have nd : nn ((7, 0) :: s) = (if (7 : Int) = 3 then 0 else 1) + nn s := rfl
          rw [if_neg (by decide)] at nd
          exact psh 7 F2 (u + 1) x5 0 (Or.inr rfl) (fun z => absurd z (by decide)) k2 g4 g5 fr e38' (by omega) (by omega) (by omega) (wsn (Or.inr h40)) (fun r hr => Rn_br hno h40 hr)
      have hU : isU (tK g n p) ∨ ¬ isU (tK g n p) := by omega
      have h22 : ¬ isU (tK g n p) → tK g n p ≠ 40 → tK g n p = 22 := fun a b => by
        by_cases z : tK g n p = 22
        · exact z
        · exact absurd (Or.inl ⟨hnot, Or.inl ⟨a, z, b⟩⟩) hno
      refine ⟨fun n4 => nx F1 0 f1 (fin 0 · ?_ · · · ·), fun e4 g2 hg2 => nx F1 g2 f1 (fin g2 · ?_ · · · ·)⟩
      · intro h40
        rw [h4] at n4 ⊢
        have hUU : isU (tK g n p) := by
          rcases hU with z | z
          · exact z
          · exfalso; apply n4; unfold wdX; rw [if_neg (by omega), if_neg (by omega), if_neg (by omega), if_neg (by omega)]
        rw [if_pos hUU, if_neg n4]
        unfold wdX rop
        rcases hUU with z | z | z | z <;> rw [z] <;> decide
      · intro h40
        have nU : ¬ isU (tK g n p) := fun z => by
          rw [h4] at e4
          rcases z with z | z | z | z <;> rw [z] at e4 <;> exact absurd e4 (by decide)
        have e22 := h22 nU h40
        rw [if_neg nU, if_pos e4, hg2, f1 373 9 (by omega), t1.2.2.2.2.1 e22]
        exact Or.inl ⟨tV_0 e22, rfl, rfl⟩
    · -- not
      have hnot : bgn s ∧ tK g n p = 16 := by omega
      have e4 : x4 = 0 := by rw [h4, hnot.2]; rfl
      refine ⟨by omega, fun F1 hF1 => ?_⟩
      have f1 := st373 hF1
      have e38 : F1 373 38 = u := by rw [hF1, st2_s, u1_s]; omega
      have fin : ∀ (x5 : Int) (F2 : Fn2), TkX g n (tE g n p) F2 → F2 373 4 = 0 → F2 373 5 = -1 → FX4 F1 F2 → G X (k + 3) m_X11_unit Q 167 [vA 373, vI x1, vI x2, vI x3, vI x4, vI x5] [] F2 A R := by
        intro x5 F2 k2 g4 g5 g2
        have nd : nn ((3, -16) :: s) = (if (3 : Int) = 3 then 0 else 1) + nn s := rfl
        rw [if_pos rfl] at nd
        have w3 := psh 3 F2 u x5 (-16) (Or.inl rfl) (fun _ => rfl) k2 g4 g5 (fun a f hx => by rw [g2 a f (by omega), f1 a f (by omega)]) (by rw [g2 373 38 (by omega)]; exact e38) (by omega) hu4 (by omega) (wsn (Or.inl hnot)) (fun r hr => Rn_not hno hnot hr)
        exact b_X11_unit_167 ⟨fun _ => ⟨fun z => absurd z n2, fun _ => w3⟩, fun z => absurd z n2⟩
      exact ⟨fun z => absurd e4 z, fun _ g5 hg5 => nx F1 g5 f1 (fun F2 a b c d => fin g5 F2 a b c d)⟩
  have N : noU (tK g n p) s u ↔ ((¬ (bgn s ∧ tK g n p = 16) ∧ (¬ isU (tK g n p) ∧ tK g n p ≠ 22 ∧ tK g n p ≠ 40 ∨ u = 40)) ∨ (bgn s ∧ tK g n p = 16 ∨ tK g n p = 40) ∧ wth s = 7) := Iff.rfl
  have hw0 : wdX (tK g n p) = 0 ↔ ¬ isU (tK g n p) := by
    unfold wdX
    by_cases z3 : tK g n p = 3
    · rw [if_pos z3]; omega
    · rw [if_neg z3]
      by_cases z17 : tK g n p = 17
      · rw [if_pos z17]; omega
      · rw [if_neg z17]
        by_cases z18 : tK g n p = 18
        · rw [if_pos z18]; omega
        · rw [if_neg z18]
          by_cases z19 : tK g n p = 19
          · rw [if_pos z19]; omega
          · rw [if_neg z19]; omega
  have s63 : ∀ x1 x2 x3 : Int, (x2 = 1 ∧ bgn s ∧ tK g n p = 16 ∨ x2 = 0 ∧ ¬ (bgn s ∧ tK g n p = 16)) → (x3 = 1 ∧ tK g n p = 40 ∨ x3 = 0 ∧ tK g n p ≠ 40) → G X (k + 3) m_X11_unit Q 63 [vA 373, vI x1, vI x2, vN, vN, vN] [vI x3] F A R := by
    intro x1 x2 x3 h2 h3
    refine b_X11_unit_63 (x_word (k := k + 1) t1 (b_X11_unit_68 ?_))
    have w := W x1 x2 x3 (wdX (tK g n p))
    have o := O x1 x2 x3 (wdX (tK g n p)) h2 h3 rfl
    rw [N] at w o
    rw [p2, t1.2.2.2.1, tT_4]
    have g91 : x2 = 0 → (¬ wdX (tK g n p) = 0 ∨ tK g n p = 22 ∨ x3 ≠ 0) → G X (k + 3) m_X11_unit Q 91 [vA 373, vI x1, vI x2, vI x3, vI (wdX (tK g n p)), vN] [] F A R := fun e2 hh => by
      refine b_X11_unit_91 ?_
      rw [hC.2.1, p2]
      refine ⟨fun e40 => w (by omega), fun n40 => ⟨fun z => absurd e2 z, fun _ => ⟨fun e3 => o (by omega), fun n3 => ⟨fun n7 => o (by omega), fun e7 => w (by omega)⟩⟩⟩⟩
    refine ⟨fun n2 => ⟨fun _ => ⟨fun n7 => o (by omega), fun e7 => w (by omega)⟩, fun z => absurd z n2⟩, fun e2 => ⟨fun nw => g91 e2 (Or.inl nw), fun ew => ⟨fun e22 => g91 e2 (Or.inr (Or.inl e22)), fun n22 => ⟨fun e3 => w (by omega), fun n3 => g91 e2 (Or.inr (Or.inr n3))⟩⟩⟩⟩
  have s40 : ∀ x1 x2 : Int, (x2 = 1 ∧ bgn s ∧ tK g n p = 16 ∨ x2 = 0 ∧ ¬ (bgn s ∧ tK g n p = 16)) → Wp X (k + 3) m_X11_is [vA 373, vI 40] F A R (fun v F A R => G X (k + 3) m_X11_unit Q 63 [vA 373, vI x1, vI x2, vN, vN, vN] [v] F A R) := fun x1 x2 h2 =>
    x_is (k := k + 1) ht t4 t5 t1 (by decide) (fun hK => s63 x1 x2 1 h2 (Or.inl ⟨rfl, hK⟩)) (fun hK => s63 x1 x2 0 h2 (Or.inr ⟨rfl, hK⟩))
  have s16 : bgn s → Wp X (k + 3) m_X11_isWord [vA 373, vL 7237492] F A R (fun v F A R => G X (k + 3) m_X11_unit Q 48 [vA 373, vI 1, vN, vN, vN, vN] [v] F A R) := fun hb =>
    x_isWord (k := k + 2) 16 t1 (by decide) rfl (fun hK => b_X11_unit_48 ⟨fun z => absurd z (by decide), fun _ => s40 1 1 (Or.inl ⟨rfl, hb, hK⟩)⟩) (fun hK => b_X11_unit_48 ⟨fun _ => s40 1 0 (Or.inr ⟨rfl, fun z => hK z.2⟩), fun z => absurd rfl z⟩)
  refine ⟨by omega, by omega, by omega, fun h3 => s16 (Or.inl (by omega)), fun h3 => ⟨fun h7 => s40 0 0 (Or.inr ⟨rfl, fun z => by have := z.1; unfold bgn at this; omega⟩), fun h7 => s16 (Or.inr (by omega))⟩⟩
/-- e: what is read from p on -/
theorem x_eL {X : Int × (Int → Int)} {k : Nat} {Q : Vv → Fn2 → Fn2 → Fn2 → Prop} {R : Fn2} {g : Int → Int} {n p0 u0 : Int} {cs0 : List Int} {F0 A0 : Fn2} (hn : n ≤ 300) (hR : RS R)
    (hq0 : ∀ F' A', TkE g n F' → Rn g n true p0 [(8, 0)] cs0 u0 (flL (F' 373 4) (F' 373 5)) → 0 < F' 373 4 → XFr F0 A0 F' A' → Q vN F' A' R)
    (hqD : ∀ F' A' cs' u' p', TkX g n p' F' → F' 373 4 = 0 → F' 373 5 = -1 → XCd cs' u' F' A' → (cs'.length : Int) ≤ p' → p0 ≤ p' → p' ≤ n → 0 ≤ u' → u' ≤ 40 → Rn g n true p0 [(8, 0)] cs0 u0 (dnL p' cs' u') → XFr F0 A0 F' A' → Q vN F' A' R) : ∀ (m : Nat) (b : Bool) (p : Int) (s : Pl) (cs : List Int) (u : Int) (F A : Fn2), n - p < m → TxX g n A R → p0 ≤ p → XEs g n b p s cs u F A → (∀ r, Rn g n b p s cs u r → Rn g n true p0 [(8, 0)] cs0 u0 r) → XFr F0 A0 F A → G X (k + 5) m_X11_e Q 19 [vA 373, vI (bI b)] [] F A R := by
  intro m
  induction m with
  | zero =>
    intro b p s cs u F A hm ht hp h
    have := h.1.2.2.2.2
    omega
  | succ m ih =>
    intro b p s cs u F A hm ht hp h hr hF
    have pos := h.2.2.2.1.pos
    refine b_X11_e_19 (x_good (k := k + 4) (fun _ => b_X11_e_23 ⟨fun z => absurd z (by decide), fun _ => ?_⟩) (fun z => absurd h.1.2.1 z))
    rw [h.2.1.1]
    refine ⟨fun z => by omega, fun _ => ?_⟩
    have stop : ∀ (F' A' : Fn2) (v : Int), TkE g n F' → Rn g n b p s cs u (flL (F' 373 4) (F' 373 5)) → 0 < F' 373 4 → XFr F A F' A' → G X (k + 5) m_X11_e Q 48 [vA 373, vI (bI b)] [vI v] F' A' R := fun F' A' v e0 e1 e2 e3 => b_X11_e_48 (b_X11_e_19 (x_good (k := k + 4) (fun z => by omega) (fun _ => b_X11_e_23 ⟨fun _ => hq0 F' A' e0 (hr _ e1) e2 (hF.trans e3), fun z => absurd rfl z⟩)))
    have go : ∀ (F' A' : Fn2) b' p' s' cs' u', XEs g n b' p' s' cs' u' F' A' → p < p' → (∀ r, Rn g n b' p' s' cs' u' r → Rn g n b p s cs u r) → XFr F A F' A' → G X (k + 5) m_X11_e Q 48 [vA 373, vI (bI b)] [vI (bI b')] F' A' R := fun F' A' b' p' s' cs' u' e1 e2 e3 e4 => b_X11_e_48 (ih b' p' s' cs' u' F' A' (by omega) (ht.xf e4) (by omega) e1 (fun r z => hr r (e3 r z)) (hF.trans e4))
    cases b with
    | true =>
      refine ⟨fun z => absurd z (by decide), fun _ => x_unit (k := k + 1) ht hn h (fun F' A' v e0 e1 e2 e3 => b_X11_e_41 (stop F' A' v e0 e1 e2 e3)) (fun F' A' b' p' s' cs' u' e1 e2 e3 e4 => b_X11_e_41 (go F' A' b' p' s' cs' u' e1 e2 e3 e4))⟩
    | false =>
      refine ⟨fun _ => x_behind (k := k + 1) ht hn h stop go (fun F' A' cs' e1 e2 e3 e4 e5 e6 e7 e8 => b_X11_e_48 (b_X11_e_19 (x_good (k := k + 4) (fun _ => b_X11_e_23 ⟨fun z => absurd z (by decide), fun _ => ?_⟩) (fun z => absurd e3 z)))), fun z => absurd rfl z⟩
      rw [e1]
      exact ⟨fun _ => hqD F' A' cs' u p e2 e3 e4 e5 e6 hp h.1.2.2.2.2 h.2.2.2.2.2.2.2.1 h.2.2.2.2.2.2.2.2 (hr _ e7) (hF.trans e8), fun z => absurd z (by decide)⟩
theorem x_e {X : Int × (Int → Int)} {k : Nat} {Q : Vv → Fn2 → Fn2 → Fn2 → Prop} {F A R : Fn2} {g : Int → Int} {n p u : Int} {cs : List Int} (ht : TxX g n A R) (hn : n ≤ 300) (hk : TkX g n p F) (h4 : F 373 4 = 0) (h5 : F 373 5 = -1) (hp : 0 ≤ p) (hpn : p ≤ n) (hC : XCd cs u F A) (hc : (cs.length : Int) ≤ p) (hu : 0 ≤ u) (hu4 : u ≤ 40)
    (hq0 : ∀ F' A', TkE g n F' → Rn g n true p [(8, 0)] cs u (flL (F' 373 4) (F' 373 5)) → 0 < F' 373 4 → XFr F A F' A' → Q vN F' A' R)
    (hqD : ∀ F' A' cs' u' p', TkX g n p' F' → F' 373 4 = 0 → F' 373 5 = -1 → XCd cs' u' F' A' → (cs'.length : Int) ≤ p' → p ≤ p' → p' ≤ n → 0 ≤ u' → u' ≤ 40 → Rn g n true p [(8, 0)] cs u (dnL p' cs' u') → XFr F A F' A' → Q vN F' A' R) : Wp X (k + 6) m_X11_e [vA 373] F A R Q := by
  have hR := ht.1
  refine Wp.of (k := k + 5) [vA 373, vN] rfl rfl rfl (b_X11_e_0 fun F1 hF1 F2 hF2 => ?_)
  have x1 := st373 hF1
  have x2 := st373 hF2
  have f2 : ∀ a f, a ≠ 373 ∨ f ≠ 39 ∧ f ≠ 40 → F2 a f = F a f := fun a f hx => by rw [x2 a f (by omega), x1 a f (by omega)]
  have e40 : F2 373 40 = (([] : Pl).length : Nat) := by rw [x2 373 40 (by omega), hF1, st2_s, u1_s]; rfl
  refine x_put (k := k + 4) (s := []) (c := 0) hR e40 trivial (by decide) (fun z => absurd z (by decide)) (fun F3 A3 hF3 P3 a3 => b_X11_e_17 ?_)
  have x3 := st373 hF3
  have f3 : ∀ a f, a ≠ 373 ∨ f ≠ 39 ∧ f ≠ 40 → F3 a f = F a f := fun a f hx => by rw [x3 a f (by omega), f2 a f (by omega)]
  have fr : XFr F A F3 A3 := ⟨fun a f hx => f3 a f (by omega), fun a _ _ y z => a3 a y z, fun i _ => by rw [a3 392 (by decide) (by decide), a3 393 (by decide) (by decide)]; exact ⟨rfl, rfl⟩⟩
  refine x_eL (k := k) (F0 := F) (A0 := A) hn hR hq0 hqD ((n - p).toNat + 1) true p [(8, 0)] cs u F3 A3 (by omega) (ht.xf fr) (Int.le_refl p) ⟨⟨hk.e (fun f hf => f3 373 f (by omega)), by rw [f3 373 4 (by omega)]; exact h4, by rw [f3 373 5 (by omega)]; exact h5, hp, hpn⟩, ⟨?_, ?_, P3⟩, ⟨?_, ?_, ?_⟩, Or.inl ⟨rfl, rfl⟩, by decide, ?_, ?_, hu, hu4⟩ (fun _ z => z) fr
  · rw [hF3, st2_s, u1_s]; rfl
  · rw [x3 373 39 (by omega), hF2, st2_s, u1_s]; rfl
  · rw [f3 373 37 (by omega)]; exact hC.1
  · rw [f3 373 38 (by omega)]; exact hC.2.1
  · rw [a3 392 (by decide) (by decide), a3 393 (by decide) (by decide)]; exact hC.2.2
  · show nn [(8, 0)] ≤ u + 1
    have : nn [(8, 0)] = 1 := by decide
    omega
  · show (cs.length : Int) + ((1 : Nat) : Int) ≤ p + 1
    omega
