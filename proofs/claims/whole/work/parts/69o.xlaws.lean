/-! THE CALL laws, the reference -/
theorem popW_ext {r : Int} : ∀ (s : Pl) (cs : List Int), ∃ x, (popW r s cs).2 = cs ++ x
  | [], cs => ⟨[], (List.append_nil cs).symm⟩
  | (w, c) :: s, cs => by
    by_cases z : w ≤ 6 ∧ r ≤ w
    · have e : popW r ((w, c) :: s) cs = popW r s (cs ++ [c]) := if_pos z
      rw [e]
      obtain ⟨x, hx⟩ := popW_ext (r := r) s (cs ++ [c])
      exact ⟨c :: x, by rw [hx, List.append_assoc]; rfl⟩
    · have e : popW r ((w, c) :: s) cs = ((w, c) :: s, cs) := if_neg z
      rw [e]
      exact ⟨[], (List.append_nil cs).symm⟩
theorem run_ext {g : Int → Int} {n : Int} {r : LR} (hr : r.1 = 0) : ∀ (m : Nat) (b : Bool) (p : Int) (s : Pl) (cs : List Int) (u : Int), run g n m b p s cs u = some r → ∃ x, r.2.2.2.1 = cs ++ x := by
  have no : ∀ (p : Int) {P : Prop}, some (rfs flL g n p 2) = some r → P := fun p P h => by
    have e := congrArg Prod.fst (Option.some.inj h)
    rw [hr] at e
    have e' : (if tK g n p = 21 then (1 : Int) else 2) = 0 := e
    split at e' <;> exact absurd e' (by decide)
  have tr : ∀ (cs cs' : List Int), (∃ y, cs' = cs ++ y) → (∃ x, r.2.2.2.1 = cs' ++ x) → ∃ x, r.2.2.2.1 = cs ++ x := fun cs cs' ⟨y, hy⟩ ⟨x, hx⟩ => ⟨y ++ x, by rw [hx, hy, List.append_assoc]⟩
  intro m
  induction m with
  | zero => intro b p s cs u h; cases b <;> cases h
  | succ m ih =>
    intro b p s cs u h
    cases b with
    | true =>
      have h' : (if noU (tK g n p) s u then some (rfs flL g n p 2) else if bgn s ∧ tK g n p = 16 then run g n m true (tE g n p) ((3, -16) :: s) cs u else if tK g n p = 40 then run g n m true (tE g n p) ((7, 0) :: s) cs (u + 1) else run g n m false (tE g n p) s (cs ++ [if isU (tK g n p) then -tK g n p else tV g n p]) (u + 1)) = some r := h
      by_cases c1 : noU (tK g n p) s u
      · rw [if_pos c1] at h'; exact no p h'
      · rw [if_neg c1] at h'
        by_cases c2 : bgn s ∧ tK g n p = 16
        · rw [if_pos c2] at h'; exact ih _ _ _ _ _ h'
        · rw [if_neg c2] at h'
          by_cases c3 : tK g n p = 40
          · rw [if_pos c3] at h'; exact ih _ _ _ _ _ h'
          · rw [if_neg c3] at h'; exact tr _ _ ⟨_, rfl⟩ (ih _ _ _ _ _ h')
    | false =>
      have h' : (if rank (tK g n p) = 4 ∧ cmpd s = true then some (rfs flL g n p 2) else if 0 < rank (tK g n p) then run g n m true (tE g n p) ((rank (tK g n p), -tK g n p) :: (popW (rank (tK g n p)) s cs).1) (popW (rank (tK g n p)) s cs).2 u else if topW (popW 0 s cs).1 = 7 then (if tK g n p = 41 then run g n m false (tE g n p) (popW 0 s cs).1.tail (popW 0 s cs).2 u else some (rfs flL g n p 2)) else some (dnL p (popW 0 s cs).2 u)) = some r := h
      by_cases c1 : rank (tK g n p) = 4 ∧ cmpd s = true
      · rw [if_pos c1] at h'; exact no p h'
      · rw [if_neg c1] at h'
        by_cases c2 : 0 < rank (tK g n p)
        · rw [if_pos c2] at h'; exact tr _ _ (popW_ext s cs) (ih _ _ _ _ _ h')
        · rw [if_neg c2] at h'
          by_cases c3 : topW (popW 0 s cs).1 = 7
          · rw [if_pos c3] at h'
            by_cases c4 : tK g n p = 41
            · rw [if_pos c4] at h'; exact tr _ _ (popW_ext s cs) (ih _ _ _ _ _ h')
            · rw [if_neg c4] at h'; exact no p h'
          · rw [if_neg c3] at h'
            rw [← Option.some.inj h']
            exact popW_ext s cs
theorem Rn_ext {g : Int → Int} {n p p' u u' : Int} {b : Bool} {s : Pl} {cs cs' : List Int} (h : Rn g n b p s cs u (dnL p' cs' u')) : ∃ x, cs' = cs ++ x := by
  obtain ⟨m, hm⟩ := h
  exact run_ext (r := dnL p' cs' u') rfl m b p s cs u hm
/-- the reference's laws while they are read -/
def XL3 (cs : List Int) (A : Fn2) (i : Int) : Option (List Int) → Prop
  | none => A 397 (3 + i) = 0
  | some c => A 397 (3 + i) = 1 ∧ A 391 (3 + i) = A 390 (3 + i) + c.length ∧ Sgm cs (A 390 (3 + i)) c
def XLn (C : Cd) (cs : List Int) (u j : Int) (F A : Fn2) : Prop := XCd cs u F A ∧ F 373 36 = j ∧ ∀ i : Nat, i < 3 → XL3 cs A i (C i)
def XF2 (F A F' A' : Fn2) : Prop := (∀ a f, a ≠ 373 ∨ (f < 4 ∨ 10 < f) ∧ (f < 36 ∨ 40 < f) → F' a f = F a f) ∧ (∀ a, a ≠ 390 → a ≠ 391 → a ≠ 392 → a ≠ 393 → a ≠ 394 → a ≠ 395 → a ≠ 397 → A' a = A a) ∧ (∀ i, i < 500 → A' 392 i = A 392 i ∧ A' 393 i = A 393 i) ∧ ∀ i, i < 3 → A' 390 i = A 390 i ∧ A' 391 i = A 391 i ∧ A' 397 i = A 397 i
theorem XF2.refl {F A : Fn2} : XF2 F A F A := ⟨fun _ _ _ => rfl, fun _ _ _ _ _ _ _ _ => rfl, fun _ _ => ⟨rfl, rfl⟩, fun _ _ => ⟨rfl, rfl, rfl⟩⟩
theorem XF2.trans {F A F1 A1 F2 A2 : Fn2} (h : XF2 F A F1 A1) (h' : XF2 F1 A1 F2 A2) : XF2 F A F2 A2 := ⟨fun a f x => (h'.1 a f x).trans (h.1 a f x), fun a a1 a2 a3 a4 a5 a6 a7 => (h'.2.1 a a1 a2 a3 a4 a5 a6 a7).trans (h.2.1 a a1 a2 a3 a4 a5 a6 a7), fun i x => ⟨(h'.2.2.1 i x).1.trans (h.2.2.1 i x).1, (h'.2.2.1 i x).2.trans (h.2.2.1 i x).2⟩, fun i x => ⟨(h'.2.2.2 i x).1.trans (h.2.2.2 i x).1, (h'.2.2.2 i x).2.1.trans (h.2.2.2 i x).2.1, (h'.2.2.2 i x).2.2.trans (h.2.2.2 i x).2.2⟩⟩
theorem XFr.x2 {F A F' A' : Fn2} (h : XFr F A F' A') : XF2 F A F' A' := ⟨fun a f x => h.1 a f (by omega), fun a a1 a2 a3 a4 a5 a6 a7 => h.2.1 a a3 a4 a5 a6, h.2.2, fun i _ => by rw [h.2.1 390 (by decide) (by decide) (by decide) (by decide), h.2.1 391 (by decide) (by decide) (by decide) (by decide), h.2.1 397 (by decide) (by decide) (by decide) (by decide)]; exact ⟨rfl, rfl, rfl⟩⟩
theorem XF2.st {F A A' : Fn2} {z i v : Int} (h : A' = st2 A z i v) (hz : z = 390 ∨ z = 391 ∨ z = 397) (hi : 3 ≤ i) : XF2 F A F A' := by
  have n : ∀ a, a ≠ z → A' a = A a := fun a ha => by rw [h, st2_n ha]
  have m : ∀ a j, j < 3 → A' a j = A a j := fun a j hj => by
    rw [h]
    by_cases e : a = z
    · subst e; rw [st2_s, u1_n (by omega)]
    · rw [st2_n e]
  exact ⟨fun _ _ _ => rfl, fun a a1 a2 a3 a4 a5 a6 a7 => n a (by omega), fun i _ => by rw [n 392 (by omega), n 393 (by omega)]; exact ⟨rfl, rfl⟩, fun j hj => ⟨m _ _ hj, m _ _ hj, m _ _ hj⟩⟩
theorem TxX.x2 {g : Int → Int} {n : Int} {F A F' A' R : Fn2} (h : TxX g n A R) (x : XF2 F A F' A') : TxX g n A' R := by
  obtain ⟨t1, t2, t3⟩ := h
  exact ⟨t1, t2, fun i a b => by rw [x.2.1 375 (by decide) (by decide) (by decide) (by decide) (by decide) (by decide) (by decide)]; exact t3 i a b⟩
theorem x_mustN {X : Int × (Int → Int)} {k : Nat} {Q : Vv → Fn2 → Fn2 → Fn2 → Prop} {F A R : Fn2} {s : Int} (hb : ¬ F 373 4 = 0) (hq : Q vN F A R) : Wp X (k + 3) m_X11_must [vA 373, vI s] F A R Q :=
  Wp.of (k := k + 2) [vA 373, vI s] rfl rfl rfl (b_X11_must_0 (x_good (k := k + 1) (fun h => absurd h hb) (fun _ => b_X11_must_4 ⟨fun h => absurd rfl h, fun _ => hq⟩)))
theorem XL3.e {cs : List Int} {A A' : Fn2} {i : Int} (h1 : A' 397 (3 + i) = A 397 (3 + i)) (h2 : A' 391 (3 + i) = A 391 (3 + i)) (h3 : A' 390 (3 + i) = A 390 (3 + i)) : ∀ {c : Option (List Int)}, XL3 cs A i c → XL3 cs A' i c
  | none, h => by unfold XL3 at h ⊢; rw [h1]; exact h
  | some c, h => by unfold XL3 at h ⊢; rw [h1, h2, h3]; exact h
theorem XL3.m {cs x : List Int} {A : Fn2} {i : Int} : ∀ {c : Option (List Int)}, XL3 cs A i c → XL3 (cs ++ x) A i c
  | none, h => h
  | some c, h => ⟨h.1, h.2.1, h.2.2.more⟩
theorem x_readLaw {X : Int × (Int → Int)} {k : Nat} {Q : Vv → Fn2 → Fn2 → Fn2 → Prop} {F A R : Fn2} {g : Int → Int} {n p u j : Int} {C : Cd} {cs : List Int} (ht : TxX g n A R) (hn : n ≤ 300) (hk : TkX g n p F) (h4 : F 373 4 = 0) (h5 : F 373 5 = -1) (hp : 0 ≤ p) (hpn : p ≤ n) (h20 : tK g n p ≠ 20) (hL : XLn C cs u j F A) (hc : (cs.length : Int) ≤ p) (hu : 0 ≤ u) (hu4 : u ≤ 40) (hj : 0 ≤ j ∧ j ≤ 4)
    (hq0 : ∀ F' A', 0 < F' 373 4 → (∀ m, pLw g n (m + 1) C cs u j p (flT (F' 373 4) (F' 373 5))) → XF2 F A F' A' → Q vN F' A' R)
    (hqG : ∀ F' A' C' cs' u' p', TkX g n p' F' → F' 373 4 = 0 → F' 373 5 = -1 → XLn C' cs' u' (j + 1) F' A' → (cs'.length : Int) ≤ p' → 0 ≤ p' → p' ≤ n → 0 ≤ u' → u' ≤ 40 → cntC C' = cntC C + 1 → (∀ m r, pLw g n m C' cs' u' (j + 1) p' r → pLw g n (m + 1) C cs u j p r) → XF2 F A F' A' → Q vN F' A' R) : Wp X (k + 7) m_X11_readLaw [vA 373] F A R Q := by
  have hR := ht.1
  obtain ⟨hC, h36, h3⟩ := hL
  have bad : ∀ x1 : Int, ¬ goL g n C p → Wp X (k + 6) m_X11_wrong [vA 373] F A R (fun v F A R => G X (k + 6) m_X11_readLaw Q 71 [vA 373, vI x1] [] F A R) := fun x1 hno =>
    x_wrongL (k := k + 4) hk h4 h5 hp hpn (fun F' _ e1 e2 e3 => b_X11_readLaw_71 (x_good (k := k + 5) (fun z => by omega) (fun _ => b_X11_readLaw_75 ⟨fun z => absurd rfl z, fun _ => hq0 F' A e2 (fun m => ⟨fun z => absurd z h20, fun _ _ => (rfs_TL e1).symm, fun z => absurd z hno⟩) e3.xf.x2⟩)))
  have none0 : ∀ i : Nat, i < 3 → A 397 (3 + (i : Int)) = 0 → C i = none := fun i hi ha => by
    have := h3 i hi
    cases e : C i with
    | none => rfl
    | some c =>
      rw [e] at this
      have := this.1
      omega
  have some0 : ∀ i : Nat, i < 3 → ¬ A 397 (3 + (i : Int)) = 0 → ¬ C i = none := fun i hi ha z => by
    have := h3 i hi
    rw [z] at this
    exact ha this
  have good : ∀ i : Nat, i < 3 → tK g n p = 11 + i → A 397 (3 + (i : Int)) = 0 → G X (k + 6) m_X11_readLaw Q 71 [vA 373, vI i] [] F A R := by
    intro i hi hK hA
    have ek : kL g n p = i := by unfold kL; omega
    have hgo : goL g n C p := ⟨by omega, by omega, by rw [ek]; exact none0 i hi hA⟩
    have eb := tE_b2 (g := g) hp hpn
    have eg := tE_gt (g := g) hpn h20
    refine b_X11_readLaw_71 (x_good (k := k + 5) (fun _ => b_X11_readLaw_75 ⟨fun _ => ?_, fun z => absurd z (by decide)⟩) (fun z => absurd h4 z))
    refine x_next (k := k + 4) ht eb.1 eb.2 hk.1 hk.2.2.1 (fun F1 k1 f1 => b_X11_readLaw_83 hR ⟨by omega, by omega, by omega, fun A1 hA1 => ?_⟩)
    rw [f1 373 37 (by omega), hC.1] at hA1
    have z1 : XF2 F A F1 A1 := (f1.x4.xf (A := A)).x2.trans (XF2.st hA1 (Or.inl rfl) (by omega))
    have a1 : ∀ a, a ≠ 390 → A1 a = A a := fun a ha => by rw [hA1, st2_n ha]
    have f14 : F1 373 4 = 0 := by rw [f1 373 4 (by omega)]; exact h4
    have f15 : F1 373 5 = -1 := by rw [f1 373 5 (by omega)]; exact h5
    have C1 : XCd cs u F1 A1 := ⟨by rw [f1 373 37 (by omega)]; exact hC.1, by rw [f1 373 38 (by omega)]; exact hC.2.1, by rw [a1 392 (by decide), a1 393 (by decide)]; exact hC.2.2⟩
    have e36 : ∀ F' A' : Fn2, XFr F1 A1 F' A' → F' 373 36 = j := fun F' A' x => by rw [x.1 373 36 (by omega), f1 373 36 (by omega)]; exact h36
    refine x_e (k := k) (ht.x2 z1) hn k1 f14 f15 eb.1 eb.2 C1 (by omega) hu hu4 (fun F2 A2 tk e1 e2 f2 => ?_) (fun F2 A2 cs2 u2 p2 k2 g4 g5 C2 c2 q0 q1 v0 v1 e1 f2 => ?_)
    · -- a fault within
      refine b_X11_readLaw_99 hR ⟨by omega, by omega, by omega, fun A3 hA3 A4 hA4 => ?_⟩
      have z4 : XF2 F A F2 A4 := ((z1.trans f2.x2).trans (XF2.st hA3 (Or.inr (Or.inl rfl)) (by omega))).trans (XF2.st hA4 (Or.inr (Or.inr rfl)) (by omega))
      obtain ⟨p3, p30, p31, k3⟩ := tk
      have fin : ∀ v : Int, G X (k + 6) m_X11_readLaw Q 127 [vA 373, vI i] [vI v, vA 373] F2 A4 R := fun v => by
        refine b_X11_readLaw_127 (x_mustN (k := k + 3) (by omega) (b_X11_readLaw_130 ?_))
        rw [e36 F2 A2 f2]
        refine ⟨by omega, fun F5 hF5 => ?_⟩
        have x5 := st373 hF5
        refine hq0 F5 A4 (by rw [x5 373 4 (by omega)]; exact e2) (fun m => ?_) (z4.trans ⟨fun a f hx => x5 a f (by omega), fun _ _ _ _ _ _ _ _ => rfl, fun _ _ => ⟨rfl, rfl⟩, fun _ _ => ⟨rfl, rfl, rfl⟩⟩)
        rw [x5 373 4 (by omega), x5 373 5 (by omega)]
        refine ⟨fun z => absurd z h20, fun _ z => absurd hgo z, fun _ => ⟨_, e1, fun z => ?_, fun z => ?_, fun _ => rfl⟩⟩
        · have : F2 373 4 = 0 := z
          omega
        · have : F2 373 4 = 0 := z
          omega
      exact x_is (k := k + 4) (ht.x2 z4) p30 p31 k3 (by decide) (fun _ => fin 1) (fun _ => fin 0)
    · obtain ⟨seg, hseg⟩ := Rn_ext e1
      refine b_X11_readLaw_99 hR ⟨by omega, by omega, by omega, fun A3 hA3 A4 hA4 => ?_⟩
      rw [C2.1] at hA3
      have z4 : XF2 F A F2 A4 := ((z1.trans f2.x2).trans (XF2.st hA3 (Or.inr (Or.inl rfl)) (by omega))).trans (XF2.st hA4 (Or.inr (Or.inr rfl)) (by omega))
      have a4 : ∀ a, a ≠ 391 → a ≠ 397 → A4 a = A2 a := fun a x y => by rw [hA4, st2_n y, hA3, st2_n x]
      have ht4 := ht.x2 z4
      have fin : ∀ v : Int, (v ≠ 0 ↔ tK g n p2 = 59) → G X (k + 6) m_X11_readLaw Q 127 [vA 373, vI i] [vI v, vA 373] F2 A4 R := fun v hv => by
        refine b_X11_readLaw_127 (x_mustL (k := k + 3) ht4 k2 g4 g5 (by omega) q1 hv (fun h59 F3 k3 g34 g35 f3 => b_X11_readLaw_130 ?_) (fun h59 F3 _ e3 e4 f3 => b_X11_readLaw_130 ?_))
        · rw [f3 373 36 (by omega), e36 F2 A2 f2]
          refine ⟨by omega, fun F5 hF5 => ?_⟩
          have x5 := st373 hF5
          have eg2 := tE_gt (g := g) q1 (show tK g n p2 ≠ 20 by omega)
          refine hqG F5 A4 (updC C i seg) cs2 u2 (tE g n p2) (k3.e (fun f hf => x5 373 f (by omega))) (by rw [x5 373 4 (by omega)]; exact g34) (by rw [x5 373 5 (by omega)]; exact g35) ⟨⟨?_, ?_, ?_⟩, by rw [hF5, st2_s, u1_s], fun i' hi' => ?_⟩ (by omega) (by omega) eg2.2 v0 v1 (cntC_u hi (none0 i hi hA)) (fun m r hr => ⟨fun z => absurd z h20, fun _ z => absurd hgo z, fun _ => ⟨_, e1, fun _ _ => ?_, fun _ z => absurd h59 z, fun z => absurd rfl z⟩⟩) ((z4.trans (f3.xf (A := A4)).x2).trans ⟨fun a f hx => x5 a f (by omega), fun _ _ _ _ _ _ _ _ => rfl, fun _ _ => ⟨rfl, rfl⟩, fun _ _ => ⟨rfl, rfl, rfl⟩⟩)
          · rw [x5 373 37 (by omega), f3 373 37 (by omega)]; exact C2.1
          · rw [x5 373 38 (by omega), f3 373 38 (by omega)]; exact C2.2.1
          · rw [a4 392 (by decide) (by decide), a4 393 (by decide) (by decide)]; exact C2.2.2
          · have e390 : A4 390 = A1 390 := by rw [a4 390 (by decide) (by decide), f2.2.1 390 (by decide) (by decide) (by decide) (by decide)]
            by_cases ei : i' = i
            · subst ei
              have eu : updC C i' seg i' = some seg := if_pos rfl
              rw [eu]
              have e3 : A4 390 (3 + (i' : Int)) = cs.length := by rw [e390, hA1, st2_s, u1_s]
              refine ⟨by rw [hA4, st2_s, u1_s], ?_, ?_⟩
              · rw [e3, hA4, st2_n (by decide), hA3, st2_s, u1_s, hseg, List.length_append]; omega
              · rw [e3, hseg]; exact Sgm.new
            · have eu : updC C i seg i' = C i' := if_neg ei
              rw [eu, hseg]
              refine ((h3 i' hi').m).e ?_ ?_ ?_
              · rw [hA4, st2_s, u1_n (by omega), hA3, st2_n (by decide), f2.2.1 397 (by decide) (by decide) (by decide) (by decide), a1 397 (by decide)]
              · rw [hA4, st2_n (by decide), hA3, st2_s, u1_n (by omega), f2.2.1 391 (by decide) (by decide) (by decide) (by decide), a1 391 (by decide)]
              · rw [e390, hA1, st2_s, u1_n (by omega)]
          · show pLw g n m (updC C (kL g n p) (cs2.drop cs.length)) cs2 u2 (j + 1) (tE g n p2) r
            rw [ek, hseg, List.drop_left, ← hseg]; exact hr
        · rw [f3 373 36 (by omega), e36 F2 A2 f2]
          refine ⟨by omega, fun F5 hF5 => ?_⟩
          have x5 := st373 hF5
          refine hq0 F5 A4 (by rw [x5 373 4 (by omega)]; exact e4) (fun m => ?_) ((z4.trans (f3.xf (A := A4)).x2).trans ⟨fun a f hx => x5 a f (by omega), fun _ _ _ _ _ _ _ _ => rfl, fun _ _ => ⟨rfl, rfl⟩, fun _ _ => ⟨rfl, rfl, rfl⟩⟩)
          rw [x5 373 4 (by omega), x5 373 5 (by omega)]
          exact ⟨fun z => absurd z h20, fun _ z => absurd hgo z, fun _ => ⟨_, e1, fun _ z => absurd z h59, fun _ _ => (rfs_TL e3).symm, fun z => absurd rfl z⟩⟩
      exact x_is (k := k + 4) ht4 (by omega) q1 k2 (by decide) (fun hK => fin 1 ⟨fun _ => hK, fun _ => by decide⟩) (fun hK => fin 0 ⟨fun z => absurd rfl z, fun z => absurd z hK⟩)
  have nogo : ∀ i : Nat, i < 3 → tK g n p = 11 + i → ¬ A 397 (3 + (i : Int)) = 0 → ¬ goL g n C p := fun i hi hK hA z => by
    have ek : kL g n p = i := by unfold kL; omega
    have := z.2.2
    rw [ek] at this
    exact some0 i hi hA this
  refine Wp.of (k := k + 6) [vA 373, vN] rfl rfl rfl (b_X11_readLaw_0 (x_isWord (k := k + 5) 11 hk (by decide) rfl (fun e11 => b_X11_readLaw_7 hR ⟨fun z => absurd z (by decide), fun _ => ⟨fun h => good 0 (by decide) e11 h, fun h => bad 0 (nogo 0 (by decide) e11 h)⟩⟩) (fun n11 => b_X11_readLaw_7 hR ⟨fun _ => ?_, fun z => absurd rfl z⟩)))
  refine x_isWord (k := k + 5) 12 hk (by decide) rfl (fun e12 => b_X11_readLaw_21 hR ⟨fun z => absurd z (by decide), fun _ => ⟨fun h => good 1 (by decide) e12 h, fun h => bad 1 (nogo 1 (by decide) e12 h)⟩⟩) (fun n12 => b_X11_readLaw_21 hR ⟨fun _ => ?_, fun z => absurd rfl z⟩)
  refine x_isWord (k := k + 5) 13 hk (by decide) rfl (fun e13 => b_X11_readLaw_35 hR ⟨fun z => absurd z (by decide), fun _ => ⟨fun h => good 2 (by decide) e13 h, fun h => bad 2 (nogo 2 (by decide) e13 h)⟩⟩) (fun n13 => b_X11_readLaw_35 hR ⟨fun _ => bad (-1) (fun z => ?_), fun z => absurd rfl z⟩)
  obtain ⟨z1, z2, z3⟩ := z
  have m11 : ¬ tK g n p = 11 := n11
  have m12 : ¬ tK g n p = 12 := n12
  have m13 : ¬ tK g n p = 13 := n13
  omega
