/-! A TEXT OF LAWS: what is asked, and the class's part -/
theorem run_mono {g : Int → Int} {n : Int} {r : LR} : ∀ (m m' : Nat) (b : Bool) (p : Int) (s : Pl) (cs : List Int) (u : Int), m ≤ m' → run g n m b p s cs u = some r → run g n m' b p s cs u = some r
  | 0, _, _, _, _, _, _, _, h => by cases h
  | m + 1, 0, _, _, _, _, _, hm, _ => absurd hm (by omega)
  | m + 1, m' + 1, true, p, s, cs, u, hm, h => by
    have h' : (if noU (tK g n p) s u then some (rfs flL g n p 2) else if bgn s ∧ tK g n p = 16 then run g n m true (tE g n p) ((3, -16) :: s) cs u else if tK g n p = 40 then run g n m true (tE g n p) ((7, 0) :: s) cs (u + 1) else run g n m false (tE g n p) s (cs ++ [if isU (tK g n p) then -tK g n p else tV g n p]) (u + 1)) = some r := h
    show (if noU (tK g n p) s u then some (rfs flL g n p 2) else if bgn s ∧ tK g n p = 16 then run g n m' true (tE g n p) ((3, -16) :: s) cs u else if tK g n p = 40 then run g n m' true (tE g n p) ((7, 0) :: s) cs (u + 1) else run g n m' false (tE g n p) s (cs ++ [if isU (tK g n p) then -tK g n p else tV g n p]) (u + 1)) = some r
    by_cases c1 : noU (tK g n p) s u
    · rw [if_pos c1] at h' ⊢; exact h'
    · rw [if_neg c1] at h' ⊢
      by_cases c2 : bgn s ∧ tK g n p = 16
      · rw [if_pos c2] at h' ⊢; exact run_mono m m' _ _ _ _ _ (by omega) h'
      · rw [if_neg c2] at h' ⊢
        by_cases c3 : tK g n p = 40
        · rw [if_pos c3] at h' ⊢; exact run_mono m m' _ _ _ _ _ (by omega) h'
        · rw [if_neg c3] at h' ⊢; exact run_mono m m' _ _ _ _ _ (by omega) h'
  | m + 1, m' + 1, false, p, s, cs, u, hm, h => by
    have h' : (if rank (tK g n p) = 4 ∧ cmpd s = true then some (rfs flL g n p 2) else if 0 < rank (tK g n p) then run g n m true (tE g n p) ((rank (tK g n p), -tK g n p) :: (popW (rank (tK g n p)) s cs).1) (popW (rank (tK g n p)) s cs).2 u else if topW (popW 0 s cs).1 = 7 then (if tK g n p = 41 then run g n m false (tE g n p) (popW 0 s cs).1.tail (popW 0 s cs).2 u else some (rfs flL g n p 2)) else some (dnL p (popW 0 s cs).2 u)) = some r := h
    show (if rank (tK g n p) = 4 ∧ cmpd s = true then some (rfs flL g n p 2) else if 0 < rank (tK g n p) then run g n m' true (tE g n p) ((rank (tK g n p), -tK g n p) :: (popW (rank (tK g n p)) s cs).1) (popW (rank (tK g n p)) s cs).2 u else if topW (popW 0 s cs).1 = 7 then (if tK g n p = 41 then run g n m' false (tE g n p) (popW 0 s cs).1.tail (popW 0 s cs).2 u else some (rfs flL g n p 2)) else some (dnL p (popW 0 s cs).2 u)) = some r
    by_cases c1 : rank (tK g n p) = 4 ∧ cmpd s = true
    · rw [if_pos c1] at h' ⊢; exact h'
    · rw [if_neg c1] at h' ⊢
      by_cases c2 : 0 < rank (tK g n p)
      · rw [if_pos c2] at h' ⊢; exact run_mono m m' _ _ _ _ _ (by omega) h'
      · rw [if_neg c2] at h' ⊢
        by_cases c3 : topW (popW 0 s cs).1 = 7
        · rw [if_pos c3] at h' ⊢
          by_cases c4 : tK g n p = 41
          · rw [if_pos c4] at h' ⊢; exact run_mono m m' _ _ _ _ _ (by omega) h'
          · rw [if_neg c4] at h' ⊢; exact h'
        · rw [if_neg c3] at h' ⊢; exact h'
theorem Rn_det {g : Int → Int} {n p u : Int} {b : Bool} {s : Pl} {cs : List Int} {r r' : LR} (h : Rn g n b p s cs u r) (h' : Rn g n b p s cs u r') : r = r' := by
  obtain ⟨m, hm⟩ := h
  obtain ⟨m', hm'⟩ := h'
  have a := run_mono m (m + m') b p s cs u (by omega) hm
  have c := run_mono m' (m + m') b p s cs u (by omega) hm'
  rw [a] at c
  exact Option.some.inj c
abbrev Cd : Type := Nat → Option (List Int)
abbrev LT : Type := Int × Int × Cd × Int
def flT (a b : Int) : LT := (a, b, (fun _ => none), 0)
def okT (C : Cd) (j : Int) : LT := (0, -1, C, j)
def updC (C : Cd) (i : Nat) (c : List Int) : Cd := fun j => if j = i then some c else C j
def kL (g : Int → Int) (n p : Int) : Nat := (tK g n p - 11).toNat
abbrev goL (g : Int → Int) (n : Int) (C : Cd) (p : Int) : Prop := 11 ≤ tK g n p ∧ tK g n p ≤ 13 ∧ C (kL g n p) = none
def pLw (g : Int → Int) (n : Int) : Nat → Cd → List Int → Int → Int → Int → LT → Prop
  | 0, _, _, _, _, _, _ => False
  | m + 1, C, cs, u, j, p, r => (tK g n p = 20 → r = okT C j) ∧ (tK g n p ≠ 20 → ¬ goL g n C p → r = rfs flT g n p 2) ∧ (goL g n C p → ∃ e : LR, Rn g n true (tE g n p) [(8, 0)] cs u e ∧ (e.1 = 0 → tK g n e.2.2.1 = 59 → pLw g n m (updC C (kL g n p) (e.2.2.2.1.drop cs.length)) e.2.2.2.1 e.2.2.2.2 (j + 1) (tE g n e.2.2.1) r) ∧ (e.1 = 0 → tK g n e.2.2.1 ≠ 59 → r = rfs flT g n e.2.2.1 2) ∧ (e.1 ≠ 0 → r = flT e.1 e.2.1))
theorem pLw_det {g : Int → Int} {n : Int} {r r' : LT} : ∀ (m : Nat) (C : Cd) (cs : List Int) (u j p : Int), pLw g n m C cs u j p r → pLw g n m C cs u j p r' → r = r'
  | 0, _, _, _, _, _, h, _ => h.elim
  | m + 1, C, cs, u, j, p, h, h' => by
    obtain ⟨a1, a2, a3⟩ := h
    obtain ⟨b1, b2, b3⟩ := h'
    by_cases c1 : tK g n p = 20
    · rw [a1 c1, b1 c1]
    · by_cases c2 : goL g n C p
      · obtain ⟨e, e1, e2, e3, e4⟩ := a3 c2
        obtain ⟨f, f1, f2, f3, f4⟩ := b3 c2
        have := Rn_det e1 f1
        subst this
        by_cases c3 : e.1 = 0
        · by_cases c4 : tK g n e.2.2.1 = 59
          · exact pLw_det m _ _ _ _ _ (e2 c3 c4) (f2 c3 c4)
          · rw [e3 c3 c4, f3 c3 c4]
        · rw [e4 c3, f4 c3]
      · rw [a2 c1 c2, b2 c1 c2]
def C0 : Cd := fun _ => none
def has1 (c : Option (List Int)) : Int := match c with
  | none => 0
  | some _ => 1
def cntC (C : Cd) : Int := has1 (C 0) + has1 (C 1) + has1 (C 2)
theorem has1_b (c : Option (List Int)) : 0 ≤ has1 c ∧ has1 c ≤ 1 ∧ (c = none ↔ has1 c = 0) := by
  cases c with
  | none => exact ⟨(by decide), (by decide), fun _ => rfl, fun _ => rfl⟩
  | some c => exact ⟨(by show (0 : Int) ≤ 1; decide), (by show (1 : Int) ≤ 1; decide), fun h => (by cases h), fun h => absurd (show (1 : Int) = 0 from h) (by decide)⟩
theorem cntC_b (C : Cd) : 0 ≤ cntC C ∧ cntC C ≤ 3 := by
  have a := has1_b (C 0)
  have b := has1_b (C 1)
  have c := has1_b (C 2)
  unfold cntC; omega
theorem cntC_u {C : Cd} {i : Nat} {c : List Int} (hi : i < 3) (h : C i = none) : cntC (updC C i c) = cntC C + 1 := by
  have e : has1 (C i) = 0 := by rw [h]; rfl
  have z : ∀ j, has1 (updC C i c j) = if j = i then 1 else has1 (C j) := fun j => by unfold updC; split <;> rfl
  unfold cntC
  rw [z, z, z]
  rcases (show i = 0 ∨ i = 1 ∨ i = 2 by omega) with rfl | rfl | rfl
  · rw [if_pos rfl, if_neg (by decide), if_neg (by decide)]; omega
  · rw [if_neg (by decide), if_pos rfl, if_neg (by decide)]; omega
  · rw [if_neg (by decide), if_neg (by decide), if_pos rfl]; omega
theorem cntC_full {C : Cd} {i : Nat} (hi : i < 3) (h : cntC C = 3) : C i ≠ none := by
  intro z
  have e := (has1_b (C i)).2.2.1 z
  have a := has1_b (C 0)
  have b := has1_b (C 1)
  have c := has1_b (C 2)
  unfold cntC at h
  rcases (show i = 0 ∨ i = 1 ∨ i = 2 by omega) with rfl | rfl | rfl <;> omega
/-- c stands in cs from st on -/
def Sgm (cs : List Int) (st : Int) (c : List Int) : Prop := ∃ a b, cs = a ++ (c ++ b) ∧ (a.length : Int) = st
theorem Sgm.more {cs c x : List Int} {st : Int} (h : Sgm cs st c) : Sgm (cs ++ x) st c := by
  obtain ⟨a, b, e, f⟩ := h
  exact ⟨a, b ++ x, by rw [e, List.append_assoc, List.append_assoc], f⟩
theorem Sgm.new {cs x : List Int} : Sgm (cs ++ x) cs.length x := ⟨cs, [], by rw [List.append_nil], rfl⟩
theorem Sgm.cr {cs c : List Int} {st : Int} {f : Int → Int} (h : Sgm cs st c) (hc : CR f 0 cs) : CR f st c := by
  obtain ⟨a, b, e, g⟩ := h
  rw [e, CR_app, CR_app] at hc
  have := hc.2.1
  rwa [show (0 : Int) + (a.length : Int) = st by omega] at this
/-- law i as the class holds it while it reads -/
def CK1 (o : Int) (cs : List Int) (A : Fn2) (i : Int) : Option (List Int) → Prop
  | none => A (o + 3) i = 0
  | some c => A (o + 3) i = A (o + 2) i + c.length ∧ Sgm cs (A (o + 2) i) c ∧ Wfc c ∧ 1 ≤ c.length
def CKw (o : Int) (cs : List Int) (A : Fn2) (C : Cd) : Prop := ∀ i : Nat, i < 3 → CK1 o cs A i (C i)
theorem CKw.cl {o : Int} {cs : List Int} {u : Int} {F A : Fn2} {C : Cd} (h : CKw o cs A C) (hl : LSt o cs u F A) (hn : cs.length ≤ 300) : CLw o A C := by
  have w : ∀ i : Nat, i < 3 → CL1 o A i (C i) := fun i hi => by
    have x := h i hi
    cases e : C i with
    | none => rw [e] at x; have x' : A (o + 3) i = 0 := x; exact (by rw [x']; exact Int.le_refl 0 : A (o + 3) i ≤ 0)
    | some c =>
      rw [e] at x
      obtain ⟨x1, x2, x3, x4⟩ := x
      have cr := x2.cr hl.2.2
      obtain ⟨a, b, e1, e2⟩ := x2
      have ll := congrArg List.length e1
      rw [List.length_append, List.length_append] at ll
      exact ⟨by omega, by omega, by omega, by omega, cr, x3⟩
  exact ⟨w 0 (by decide), w 1 (by decide), w 2 (by decide)⟩
theorem Exs.wf {c : List Int} {k : Int} (h : Exs c k) (hk : k ≤ 40) : Wfc c := ⟨h.1 0 (by omega), h.2.1⟩
/-- the frame of the laws' reading -/
def FLT (o : Int) (F A F' A' : Fn2) : Prop := (∀ a f, a ≠ o → a ≠ 2 ∨ f = 1 → F' a f = F a f) ∧ ∀ a, a < o + 1 ∨ o + 3 < a → A' a = A a
theorem FLT.refl {o : Int} {F A : Fn2} : FLT o F A F A := ⟨fun _ _ _ _ => rfl, fun _ _ => rfl⟩
theorem FLT.trans {o : Int} {F A F1 A1 F2 A2 : Fn2} (h : FLT o F A F1 A1) (h' : FLT o F1 A1 F2 A2) : FLT o F A F2 A2 := ⟨fun a f x y => (h'.1 a f x y).trans (h.1 a f x y), fun a x => (h'.2 a x).trans (h.2 a x)⟩
theorem FL.t {o : Int} {F A F' A' : Fn2} (h : FL o F A F' A') : FLT o F A F' A' := ⟨fun a f x y => h.1 a f (Or.inl x) y, fun a x => h.2.1 a (by omega)⟩
theorem FT2.lt {o : Int} {F A F' : Fn2} (h : FT2 F F') : FLT o F A F' A := ⟨fun a f _ y => h a f y, fun _ _ => rfl⟩
theorem TxC.flt {o : Int} {g : Int → Int} {n : Int} {F A F' A' R : Fn2} (ho : lawD o) (h : TxC g n A R) (x : FLT o F A F' A') : TxC g n A' R := by
  obtain ⟨t1, t2, t3, t4⟩ := h
  exact ⟨t1, t2, t3, fun i a b => by rw [x.2 1 (by unfold lawD at ho; omega)]; exact t4 i a b⟩
theorem rfs_TL {g : Int → Int} {n p w a b : Int} (h : rfs flL g n p w = flL a b) : rfs flT g n p w = flT a b := by
  unfold rfs at h ⊢
  have h1 := congrArg Prod.fst h
  have h2 := congrArg (fun x : LR => x.2.1) h
  have h1' : (if tK g n p = 21 then 1 else w) = a := h1
  have h2' : tA g n p = b := h2
  rw [h1', h2']
theorem c_linesT {X : Int × (Int → Int)} {k : Nat} {Q : Vv → Fn2 → Fn2 → Fn2 → Prop} {R : Fn2} {g : Int → Int} {n o : Int} {rs : LT → Prop} {F0 A0 : Fn2} (ho : lawD o) (hn : n ≤ 300) (hq1 : ∀ F' A' C j, rs (okT C j) → F' o 0 = j → CLw o A' C → FLT o F0 A0 F' A' → F' 2 7 = 0 → F' 2 8 = -1 → Q (vI 1) F' A' R) (hq0 : ∀ F' A', rs (flT (F' 2 7) (F' 2 8)) → 0 < F' 2 7 → FLT o F0 A0 F' A' → Q (vI 0) F' A' R) : ∀ (m : Nat) (F A : Fn2) (C : Cd) (cs : List Int) (u j p : Int) (w : Vv), TxC g n A R → 0 ≤ p → p ≤ n → TkC g n p F → LSt o cs u F A → CKw o cs A C → F o 0 = j → j = cntC C → j + m = 4 → 0 ≤ u → u ≤ 40 → (cs.length : Int) ≤ p → FLT o F0 A0 F A → (∀ r, pLw g n m C cs u j p r → rs r) → G X (k + 57) m_X3_readText Q 25 [vA o, vA 2, vI j, w] [] F A R := by
  intro m
  induction m with
  | zero =>
    intro F A C cs u j p w ht hp hpn hk hL hC h0 hj hm
    have := cntC_b C
    omega
  | succ m ih =>
    intro F A C cs u j p w ht hp hpn hk hL hC h0 hj hm hu hu4 hcp hF hr
    have ha := lawD_at ho
    have hR := ht.1
    have hoo := ho
    unfold lawD at hoo
    have cb := cntC_b C
    have l0 : (0 : Int) ≤ cs.length := by omega
    have ref : ¬ tK g n p = 20 → ¬ goL g n C p → Wp X (k + 57) m_X8_refuse [vA 2, vI 2] F A R (fun v F A R => G X (k + 57) m_X3_readText Q 77 [vA o, vA 2, vI j, w] [v] F A R) := fun n20 hg =>
      c_refuse (fl := flT) (rs := rfs flT g n p 2) (k := k + 56) hk (by decide) rfl (fun F' e1 e2 e3 => b_X3_readText_77 ha ⟨by decide, by decide, hq0 F' A (by rw [← e1]; exact hr _ ⟨fun z => absurd z n20, fun _ _ => rfl, fun z => absurd z hg⟩) e2 (hF.trans e3.lt)⟩)
    refine b_X3_readText_25 hR ha ⟨fun h => by omega, fun _ => ?_⟩
    rw [hk.2.2.2.1]
    refine ⟨fun e20 => hq1 F A C j (hr _ ⟨fun _ => rfl, fun z => absurd e20 z, fun z => by omega⟩) h0 (hC.cl hL (by omega)) hF hk.2.2.2.2.2.2.1 hk.2.2.2.2.2.2.2, fun n20 => ⟨fun h11 => ref n20 (fun z => by omega), fun h11 => ⟨fun h13 => ref n20 (fun z => by omega), fun h13 => ⟨by omega, by omega, by omega, ?_⟩⟩⟩⟩
    have ek : tK g n p - 11 = ((kL g n p : Nat) : Int) := by unfold kL; omega
    have k3 : kL g n p < 3 := by omega
    have hCk := hC (kL g n p) k3
    rw [ek]
    refine ⟨fun hle g1 hg1 => ?_, fun hgt => ref n20 (fun z => ?_)⟩
    · subst hg1
      have hnone : C (kL g n p) = none := by
        cases e : C (kL g n p) with
        | none => rfl
        | some c =>
          rw [e] at hCk
          obtain ⟨x1, ⟨a, b, e1, e2⟩, x3, x4⟩ := hCk
          omega
      have hgo : goL g n C p := ⟨by omega, by omega, hnone⟩
      refine hk.next (k := k + 51) ht hp hpn (fun F1 k1 f1 _ p0 p1 => b_X3_readText_90 hR ha ⟨by omega, by omega, fun A1 hA1 => ?_⟩)
      have eg := tE_gt (g := g) hpn (show tK g n p ≠ 20 by omega)
      have L1 : LSt o cs u F1 A1 := by
        obtain ⟨a, b, c⟩ := hL.t2 ho f1
        exact ⟨a, b, by rw [hA1, st2_n (by omega)]; exact c⟩
      have a1 : ∀ z, z ≠ o + 2 → A1 z = A z := fun z hz => by rw [hA1, st2_n hz]
      have hA1F : FLT o F A F1 A1 := ⟨fun a f _ y => f1 a f y, fun a x => a1 a (by omega)⟩
      have ht1 := ht.flt ho hA1F
      have est : A1 (o + 2) (kL g n p) = cs.length := by rw [hA1, st2_s, u1_s]; exact (L1.2.1)
      have oth : ∀ i : Int, i ≠ (kL g n p : Int) → A1 (o + 2) i = A (o + 2) i := fun i hi => by rw [hA1, st2_s, u1_n hi]
      have e1o : F1 o 0 = j := by rw [f1 o 0 (by omega)]; exact h0
      have eith : RdX 5 m_X3_readEither 56 0 := c_eith
      refine eith X (k + 57) _ F1 A1 R g n (tE g n p) o u cs [(8, 0)] (by omega) ht1 hn p0 p1 k1 ho L1 hu hu4 (by omega) rfl ⟨fun z => absurd z (by decide), fun z => absurd z (by decide), fun z => absurd z (by decide), fun z => absurd z (by decide), fun z => absurd z (by decide), fun _ => by show (7 : Int) ≤ 8; decide⟩ (fun F2 A2 p2 seg u2 ok2 k2 L2 f2 => b_X3_readText_106 ha ⟨fun h => absurd h (by decide), fun _ => ?_⟩) (fun F2 A2 r2 e2 f2 => b_X3_readText_106 ha ⟨fun _ => hq0 F2 A2 (hr _ ⟨fun z => absurd z n20, fun _ z => absurd hgo z, fun _ => ⟨_, r2, fun z => ?_, fun z => ?_, fun _ => rfl⟩⟩) e2 ((hF.trans hA1F).trans f2.t), fun h => absurd rfl h⟩)
      · obtain ⟨⟨b1, b2, b3, b4, b5, b6, b7, b8⟩, c1, c2, c3, c4⟩ := ok2
        have rb := rank_b (tK g n p2)
        have r1 := c1 (by decide)
        have r2 := c2 (by decide)
        have r3 := c3 (by decide)
        have r4 := c4 (by decide)
        have bad : tK g n p2 ≠ 59 → pLw g n (m + 1) C cs u j p (rfs flT g n p2 2) := fun h59 => ⟨fun z => absurd z n20, fun _ z => absurd hgo z, fun _ => by
          by_cases h4 : rank (tK g n p2) = 4
          · refine ⟨_, b8 (by decide) h4, fun z => absurd (show (2 : Int) = 0 from z) (by decide), fun z => absurd (show (2 : Int) = 0 from z) (by decide), fun _ => ?_⟩
            unfold rfs
            rw [if_neg (fun z => by rw [z] at h4; exact absurd h4 (by decide))]; rfl
          · exact ⟨_, b7 (Or.inr h4) _ (Rn_dn (by omega)), fun _ z => absurd z h59, fun _ _ => rfl, fun z => absurd rfl z⟩⟩
        refine c_takeL (k := k + 50) (ht1.fl ho f2) (by omega) b5 k2 (fun F3 h59 q0 q1 k3' f3 => b_X3_readText_115 hR ha ⟨fun _ => ⟨by omega, by omega, fun A3 hA3 => ?_⟩, fun h => absurd h (by decide)⟩) (fun F3 h59 e1 e2 f3 => b_X3_readText_115 hR ha ⟨fun h => absurd rfl h, fun _ => hq0 F3 A2 (by rw [← rfs_TL e1]; exact hr _ (bad h59)) e2 (((hF.trans hA1F).trans f2.t).trans f3.lt)⟩)
        have r0 : rank (tK g n p2) = 0 := by rw [h59]; decide
        have e3o : F3 o 0 = j := by rw [f3 o 0 (by omega), f2.1 o 0 (by omega) (by omega)]; exact e1o
        rw [e3o]
        refine ⟨by omega, fun F4 hF4 => ⟨by omega, ?_⟩⟩
        have x4 : ∀ a f, a ≠ o ∨ f ≠ 0 → F4 a f = F3 a f := fun a f h => by
          rw [hF4]
          by_cases e : a = o
          · subst e; rw [st2_s, u1_n (by omega)]
          · rw [st2_n e]
        have L3 := L2.t2 ho f3
        have a3 : ∀ z, z ≠ o + 3 → A3 z = A2 z := fun z hz => by rw [hA3, st2_n hz]
        have L4 : LSt o (cs ++ seg) u2 F4 A3 := ⟨by rw [x4 o 1 (by omega)]; exact L3.1, by rw [x4 o 3 (by omega)]; exact L3.2.1, by rw [a3 _ (by omega)]; exact L3.2.2⟩
        have fr : FLT o F0 A0 F4 A3 := (((hF.trans hA1F).trans f2.t).trans (f3.lt (A := A2))).trans ⟨fun a f x y => x4 a f (Or.inl x), fun a x => a3 a (by omega)⟩
        have k4 : TkC g n (tE g n p2) F4 := k3'.same (by rw [hF4, st2_n (by omega)])
        have eg2 := tE_gt (g := g) b5 (show tK g n p2 ≠ 20 by omega)
        refine ih F4 A3 (updC C (kL g n p) seg) (cs ++ seg) u2 (j + 1) (tE g n p2) _ (ht.flt ho (hA1F.trans (f2.t.trans (show FLT o F2 A2 F4 A3 from ⟨fun a f x y => by rw [x4 a f (Or.inl x), f3 a f y], fun a x => a3 a (by omega)⟩)))) (by omega) eg2.2 k4 L4 (fun i hi => ?_) (by rw [hF4, st2_s, u1_s]) (by rw [cntC_u k3 hnone, hj]) (by omega) (by omega) b2 (by rw [List.length_append]; omega) fr (fun r hr' => hr r ⟨fun z => absurd z n20, fun _ z => absurd hgo z, fun _ => ⟨_, b7 (Or.inr (by omega)) _ (Rn_dn r0), fun _ _ => ?_, fun _ z => absurd h59 z, fun z => absurd rfl z⟩⟩)
        · by_cases ei : i = kL g n p
          · have eu : updC C (kL g n p) seg i = some seg := if_pos ei
            rw [eu, ei]
            have e2' : A3 (o + 2) (kL g n p) = cs.length := by rw [a3 _ (by omega), f2.2.1 _ (by omega)]; exact est
            refine ⟨?_, ?_, b3.wf (by omega), b3.2.2.2⟩
            · rw [hA3, st2_s, u1_s]
              show F3 o 3 = (st2 A2 (o + 3) (kL g n p) (F3 o 3)) (o + 2) (kL g n p) + _
              rw [← hA3, e2', L3.2.1, List.length_append]; omega
            · rw [e2']; exact Sgm.new
          · have eu : updC C (kL g n p) seg i = C i := if_neg ei
            rw [eu]
            have e2' : A3 (o + 2) i = A (o + 2) i := by rw [a3 _ (by omega), f2.2.1 _ (by omega), oth _ (by omega)]
            have e3' : A3 (o + 3) i = A (o + 3) i := by rw [hA3, st2_s, u1_n (by omega), f2.2.1 _ (by omega), a1 _ (by omega)]
            have x := hC i hi
            cases e : C i with
            | none => rw [e] at x; have x' : A (o + 3) i = 0 := x; exact (by rw [e3']; exact x' : A3 (o + 3) i = 0)
            | some c =>
              rw [e] at x
              obtain ⟨x1, x2, x3, x4'⟩ := x
              exact ⟨by rw [e3', e2']; exact x1, by rw [e2']; exact x2.more, x3, x4'⟩
        · show pLw g n m (updC C (kL g n p) ((cs ++ seg).drop cs.length)) (cs ++ seg) u2 (j + 1) (tE g n p2) r
          rw [List.drop_left]; exact hr'
      · have : F2 2 7 = 0 := z
        omega
      · have : F2 2 7 = 0 := z
        omega
    · have hnone := z.2.2
      rw [hnone] at hCk
      have : A (o + 3) (kL g n p) = 0 := hCk
      omega
/-- the laws' text read by the class -/
theorem c_rdL {X : Int × (Int → Int)} {k : Nat} {Q : Vv → Fn2 → Fn2 → Fn2 → Prop} {F A R : Fn2} {g : Int → Int} {n o : Int} (ht : TxC g n A R) (h0 : 0 ≤ n) (hn : n ≤ 300) (hk : TkC g n 0 F) (ho : lawD o) (hq1 : ∀ F' A' C j, pLw g n 4 C0 [] 0 0 0 (okT C j) → F' o 0 = j → CLw o A' C → FLT o F A F' A' → F' 2 7 = 0 → F' 2 8 = -1 → Q (vI 1) F' A' R) (hq0 : ∀ F' A', pLw g n 4 C0 [] 0 0 0 (flT (F' 2 7) (F' 2 8)) → 0 < F' 2 7 → FLT o F A F' A' → Q (vI 0) F' A' R) : Wp X (k + 58) m_X3_readText [vA o, vA 2] F A R Q := by
  have ha := lawD_at ho
  have hR := ht.1
  have hoo := ho
  unfold lawD at hoo
  refine Wp.of (k := k + 57) [vA o, vA 2, vN, vN] rfl rfl rfl (b_X3_readText_0 hR ha fun F1 hF1 F2 hF2 F3 hF3 => ?_)
  refine j_fill (k := k + 56) (la_Laws_5 ha) (ln_Laws_5 ha) (by decide) (by decide) (b_X3_readText_23 ha ?_)
  have x : ∀ a f, a ≠ o → F3 a f = F a f := fun a f h => by rw [hF3, st2_n h, hF2, st2_n h, hF1, st2_n h]
  have hfr : FLT o F A F3 (up2 A (o + 3) (flr 3 0 (A (o + 3)))) := ⟨fun a f h _ => x a f h, fun a h => up2_n (by omega)⟩
  refine c_linesT (k := k) (F0 := F) (A0 := A) (rs := pLw g n 4 C0 [] 0 0 0) ho hn hq1 hq0 4 F3 _ C0 [] 0 0 0 vN (ht.flt ho hfr) (Int.le_refl 0) h0 (hk.same (by rw [hF3, st2_n (by omega), hF2, st2_n (by omega), hF1, st2_n (by omega)])) ⟨?_, ?_, trivial⟩ (fun i hi => ?_) ?_ rfl (by decide) (Int.le_refl 0) (by decide) (Int.le_refl 0) hfr (fun _ h => h)
  · rw [hF3, st2_s, u1_n (by decide), hF2, st2_s, u1_s]
  · rw [hF3, st2_s, u1_s]; rfl
  · show up2 A (o + 3) (flr 3 0 (A (o + 3))) (o + 3) i = 0
    rw [up2_s]; unfold flr; rw [if_pos (by omega)]
  · rw [hF3, st2_s, u1_n (by decide), hF2, st2_s, u1_n (by decide), hF1, st2_s, u1_s]
