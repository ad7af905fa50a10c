/-! THE START: behind the constructors all holds, and the law ends with 1 -/
def FCl : L3 := [(0, 1, 0), (0, 7, 10), (0, 8, 5), (0, 15, -1), (66, 0, 0), (66, 1, 0), (184, 0, 0), (2, 7, 0), (2, 8, -1), (71, 2, 0), (189, 8, -1), (235, 8, -1), (281, 8, -1), (327, 8, -1), (190, 0, 0), (190, 1, 0), (236, 0, 0), (236, 1, 0), (282, 0, 0), (282, 1, 0), (328, 0, 0), (328, 1, 0), (17, 0, 0), (373, 2, 0), (373, 4, 0), (373, 5, -1), (373, 25, 4), (373, 35, 0), (373, 55, 10), (373, 56, 5), (373, 72, 0), (373, 73, 0), (373, 78, 0)]
def ACl : L3 := [(188, 0, 0), (20, 0, 0), (20, 1, 0), (20, 2, 0), (376, 0, 0), (376, 1, 1), (376, 2, 2), (376, 3, 3), (377, 0, 0), (377, 1, 0), (377, 2, 0), (377, 3, 0), (377, 4, 0), (378, 0, 0), (378, 1, 0), (378, 2, 0), (378, 3, 0), (378, 4, 0), (397, 0, 0), (397, 1, 0), (397, 2, 0)]
def RCl : L3 := [(0, 4, 5), (0, 5, 17), (0, 6, 22), (189, 0, 190), (235, 0, 236), (281, 0, 282), (327, 0, 328)]
def sg0 (F A : Fn2) : Sg := ((fun i j => if i = 0 then (if j = 1 then 10 else if j = 2 then 5 else if j = 4 then -1 else 0) else 0), (fun i k r => if k = 0 then F (190 + 46 * (i : Int)) r else A (190 + 46 * (i : Int) + k) r), C0)
def q0 (i : Int) : Int := if i = 4 then 5 else 190 + 46 * i
theorem jx_of {F A R : Fn2} (hR : RS R) (hF : ∀ e ∈ FCl, F e.1 e.2.1 = e.2.2) (hA : ∀ e ∈ ACl, A e.1 e.2.1 = e.2.2) (hr : ∀ e ∈ RCl, R e.1 e.2.1 = e.2.2) : JX F A R := by
  have f : ∀ a i v, (a, i, v) ∈ FCl → F a i = v := fun a i v h => hF (a, i, v) h
  have g : ∀ a i v, (a, i, v) ∈ ACl → A a i = v := fun a i v h => hA (a, i, v) h
  have r : ∀ a i v, (a, i, v) ∈ RCl → R a i = v := fun a i v h => hr (a, i, v) h
  have P0 : ∀ i : Nat, i < 4 → (sg0 F A).2.1 i 0 0 = 0 ∧ (sg0 F A).2.1 i 0 1 = 0 := fun i hi => by
    rcases (show i = 0 ∨ i = 1 ∨ i = 2 ∨ i = 3 by omega) with rfl | rfl | rfl | rfl
    · exact ⟨f 190 0 0 (by decide), f 190 1 0 (by decide)⟩
    · exact ⟨f 236 0 0 (by decide), f 236 1 0 (by decide)⟩
    · exact ⟨f 282 0 0 (by decide), f 282 1 0 (by decide)⟩
    · exact ⟨f 328 0 0 (by decide), f 328 1 0 (by decide)⟩
  have wf0 : ∀ P : Fn2, P 0 0 = 0 → P 0 1 = 0 → WFP P := fun P h1 h2 => ⟨by rw [h1, h2]; decide, fun r r0 r1 => by omega, fun j j0 j1 => by omega⟩
  have R0 : ∀ i : Nat, i < 4 → RPm (i : Int) A 0 0 = 0 ∧ RPm (i : Int) A 0 1 = 0 := fun i hi => by
    rw [RPm_0, RPm_01]
    rcases (show i = 0 ∨ i = 1 ∨ i = 2 ∨ i = 3 by omega) with rfl | rfl | rfl | rfl
    · exact ⟨g 377 0 0 (by decide), g 378 0 0 (by decide)⟩
    · exact ⟨g 377 1 0 (by decide), g 378 1 0 (by decide)⟩
    · exact ⟨g 377 2 0 (by decide), g 378 2 0 (by decide)⟩
    · exact ⟨g 377 3 0 (by decide), g 378 3 0 (by decide)⟩
  have n0 : ∀ k : Int, 0 ≤ k → k < (0 : Int) → False := fun k a b => by omega
  refine ⟨sg0 F A, q0, 17, fun i => i, ?_, ?_, ?_, Or.inl (f 0 15 (-1) (by decide)), Or.inl (f 71 2 0 (by decide)), ?_⟩
  · exact ⟨(by show (0 : Int) ≤ 0 ∧ (0 : Int) ≤ 900; decide), (by show (0 : Int) ≤ 10 ∧ (10 : Int) ≤ 99; decide), (by show (1 : Int) ≤ 5 ∧ (5 : Int) ≤ 99; decide), (by show (0 : Int) ≤ 0 ∧ (0 : Int) ≤ 60; decide), (by show (0 : Int) ≤ 0 ∧ (0 : Int) ≤ 100000; decide), ⟨(by show (0 : Int) ≤ 0; decide), (by show (0 : Int) ≤ 40; decide), fun i a b => (n0 i a b).elim⟩, fun i hi => wf0 _ (P0 i hi).1 (P0 i hi).2, fun k a b => (n0 k a b).elim, fun i a b => (n0 i a b).elim⟩
  · refine ⟨hR, ⟨fun i i0 i4 => ?_, fun i j i0 ij j4 => ?_⟩, Or.inl rfl, r 0 4 5 (by decide), r 0 5 17 (by decide), r 0 6 22 (by decide), fun i hi => ⟨?_, ?_⟩, f 0 1 0 (by decide), fun k a b => (n0 k a b).elim, ⟨?_, ?_, ?_⟩, f 17 0 0 (by decide), f 0 7 10 (by decide), f 0 8 5 (by decide), ⟨f 66 0 0 (by decide), f 66 1 0 (by decide), fun i a b => (n0 i a b).elim⟩, ⟨f 184 0 0 (by decide), fun i a b => (n0 i a b).elim, g 188 0 0 (by decide)⟩, f 2 7 0 (by decide), f 2 8 (-1) (by decide)⟩
    · unfold q0 inQ; split <;> omega
    · unfold q0; split <;> split <;> omega
    · rcases (show i = 0 ∨ i = 1 ∨ i = 2 ∨ i = 3 by omega) with rfl | rfl | rfl | rfl
      · exact r 189 0 190 (by decide)
      · exact r 235 0 236 (by decide)
      · exact r 281 0 282 (by decide)
      · exact r 327 0 328 (by decide)
    · have e : q0 (i : Int) = 190 + 46 * (i : Int) := if_neg (by omega)
      rw [e]
      refine ⟨fun j a b => funext fun x => ?_, rfl, rfl⟩
      show _ = if j = 0 then _ else A (190 + 46 * (i : Int) + j) x
      rw [if_neg (by omega)]
    · show A (17 + 3) 0 ≤ 0
      rw [show (17 : Int) + 3 = 20 from rfl, g 20 0 0 (by decide)]; decide
    · show A (17 + 3) 1 ≤ 0
      rw [show (17 : Int) + 3 = 20 from rfl, g 20 1 0 (by decide)]; decide
    · show A (17 + 3) 2 ≤ 0
      rw [show (17 : Int) + 3 = 20 from rfl, g 20 2 0 (by decide)]; decide
  · intro i hi
    refine Or.inl ?_
    unfold crs
    rcases (show i = 0 ∨ i = 1 ∨ i = 2 ∨ i = 3 by omega) with rfl | rfl | rfl | rfl
    · exact f 189 8 (-1) (by decide)
    · exact f 235 8 (-1) (by decide)
    · exact f 281 8 (-1) (by decide)
    · exact f 327 8 (-1) (by decide)
  · refine ⟨fun i a b => ⟨a, b⟩, fun i j a b c => (by show i ≠ j; omega), fun i hi => ⟨?_, ⟨?_, ?_, fun r r0 r1 => ?_, fun j j0 j1 => ?_⟩, wf0 _ (R0 i hi).1 (R0 i hi).2⟩, f 373 25 4 (by decide), f 373 2 0 (by decide), fun k a b => (n0 k a b).elim, ⟨g 397 0 0 (by decide), g 397 1 0 (by decide), g 397 2 0 (by decide)⟩, f 373 35 0 (by decide), f 373 55 10 (by decide), f 373 56 5 (by decide), ⟨f 373 73 0 (by decide), f 373 72 0 (by decide), fun i a b => (n0 i a b).elim⟩, ⟨f 373 78 0 (by decide), fun i a b => (n0 i a b).elim⟩, f 373 4 0 (by decide), f 373 5 (-1) (by decide)⟩
    · rcases (show i = 0 ∨ i = 1 ∨ i = 2 ∨ i = 3 by omega) with rfl | rfl | rfl | rfl
      · exact g 376 0 0 (by decide)
      · exact g 376 1 1 (by decide)
      · exact g 376 2 2 (by decide)
      · exact g 376 3 3 (by decide)
    · rw [(P0 i hi).1, (R0 i hi).1]
    · rw [(P0 i hi).2, (R0 i hi).2]
    · rw [(P0 i hi).1] at r1; omega
    · rw [(P0 i hi).2] at j1; omega
def M0 : Mm := ([], [], [], [], [], 0, 0, 0)
def M1 : Mm := newM M0 20 0 19
def eqI (x : Int) (a : Nat) : Bool := match x with
  | .ofNat n => Nat.beq n a
  | .negSucc _ => false
theorem eqI_s {x : Int} {a : Nat} : eqI x a = true ↔ x = (a : Int) := by
  cases x with
  | ofNat n =>
    show Nat.beq n a = true ↔ ((n : Nat) : Int) = (a : Int)
    rw [Nat.beq_eq]; omega
  | negSucc n =>
    exact ⟨(fun h => absurd (show false = true from h) Bool.false_ne_true), (fun h => by omega)⟩
theorem eqI_f {x : Int} {a : Nat} (h : ¬ x = (a : Int)) : eqI x a = false := by
  cases e : eqI x a with
  | true => exact absurd (eqI_s.1 e) h
  | false => rfl
def lkB (d : Int) : L3 → Nat → Nat → Int
  | [], _, _ => d
  | (x, y, v) :: t, a, i => cond (eqI x a) (cond (eqI y i) v (lkB d t a i)) (lkB d t a i)
theorem lkB_s {d : Int} {a i : Nat} : ∀ t : L3, lkB d t a i = lk d t (a : Int) (i : Int)
  | [] => rfl
  | (x, y, v) :: t => by
    rw [lk_c, ← lkB_s t]
    show cond (eqI x a) (cond (eqI y i) v (lkB d t a i)) (lkB d t a i) = _
    by_cases e : x = (a : Int)
    · rw [eqI_s.2 e]
      by_cases f : y = (i : Int)
      · rw [eqI_s.2 f, if_pos ⟨e, f⟩]; rfl
      · rw [eqI_f f, if_neg (fun z => f z.2)]; rfl
    · rw [eqI_f e, if_neg (fun z => e z.1)]; rfl
def kc : Nat → L3 → List Int → Bool
  | 0, _, [] => true
  | n + 1, (x, y, v) :: t, k :: r => eqI x n && (eqI y 0 && (decide (v = k) && kc n t r))
  | _, _, _ => false
theorem kc_s {d : Int} : ∀ (n : Nat) (t : L3) (r : List Int), kc n t r = true → r.length = n ∧ ∀ i : Nat, i < n → lk d t (i : Int) 0 = r.reverse.getD i d
  | 0, _, [], _ => ⟨rfl, fun i h => by omega⟩
  | 0, _, _ :: _, h => by simp [kc] at h
  | _ + 1, [], _, h => by simp [kc] at h
  | _ + 1, _ :: _, [], h => by simp [kc] at h
  | n + 1, (x, y, v) :: t, k :: r, h => by
    have h' : (eqI x n && (eqI y 0 && (decide (v = k) && kc n t r))) = true := h
    rw [Bool.and_eq_true, Bool.and_eq_true, Bool.and_eq_true, eqI_s, eqI_s] at h'
    obtain ⟨h1, h2, h3, h4⟩ := h'
    have h3' := of_decide_eq_true h3
    obtain ⟨l, z⟩ := kc_s n t r h4
    refine ⟨by rw [List.length_cons, l], fun i hi => ?_⟩
    rw [lk_c, List.reverse_cons, List.getD_eq_getElem?_getD]
    by_cases e : i = n
    · rw [if_pos ⟨by omega, h2⟩, List.getElem?_append_right (by rw [List.length_reverse]; omega), List.length_reverse, show i - r.length = 0 by omega, h3']; rfl
    · rw [if_neg (by omega), z i (by omega), List.getElem?_append_left (by rw [List.length_reverse]; omega), List.getD_eq_getElem?_getD]
def lkQ (d : Int) (t : L3) (q : Int × Int × Int) : Bool := match q with
  | (.ofNat a, .ofNat i, v) => decide (lkB d t a i = v)
  | _ => false
theorem lkQ_s {d : Int} {t : L3} {q : Int × Int × Int} (h : lkQ d t q = true) : lk d t q.1 q.2.1 = q.2.2 := by
  unfold lkQ at h
  split at h
  · rename_i a i v
    have := of_decide_eq_true h
    rw [lkB_s] at this; exact this
  · cases h
def ck1 (M : Mm) : Bool := Nat.beq (mN M) 424 && (Nat.beq (mC M) 424 && (Nat.beq (mS M) 135600 && (kc 424 M.2.2.2.1 (YKL.map Int.ofNat).reverse && kc 424 M.2.2.2.2.1 YLL.reverse)))
def ck2 (M : Mm) : Bool := FCl.all (lkQ 0 M.1) && (ACl.all (lkQ 0 M.2.1) && RCl.all (lkQ (-1) M.2.2.1))
def ck3 (n : Nat) (M : Mm) : Bool := ((RCL.drop n).take 90).all (lkQ (-1) M.2.2.1)
def ck4 (M : Mm) : Bool := (List.range 4).all (fun i => decide (lkB (-1) M.2.2.1 4 i = 189 + 46 * (i : Int))) && ((List.range 100).all (fun i => decide (lkB (-1) M.2.2.1 75 i = 76 + (i : Int))) && (List.range 5).all (fun i => decide (lkB (-1) M.2.2.1 176 i = 177 + (i : Int))))
def rcp (p : Mm → Bool) : Bool := match evD 8 84 [vA 0] M1 with
  | some M2 => Nat.beq (mN M2) 373 && (Nat.beq (mC M2) 373 && (Nat.beq (mS M2) 98823 && (match evD 8 127 [vA 373] (newM M2 21 0 89) with
    | some M4 => p M4
    | none => false)))
  | none => false
theorem rc1 : rcp ck1 = true := by decide +kernel
theorem rc2 : rcp ck2 = true := by decide +kernel
theorem rc3 : rcp (ck3 0) = true := by decide +kernel
theorem rc4 : rcp (ck3 90) = true := by decide +kernel
theorem rc5 : rcp (ck3 180) = true := by decide +kernel
theorem rc6 : rcp (ck3 270) = true := by decide +kernel
theorem rc7 : rcp ck4 = true := by decide +kernel
theorem rc8 : RCL.drop 360 = [] := by decide +kernel
theorem inv0 : INV M0 := by
  have e : inN 0 ([] : L3) := fun e he => by cases he
  exact ⟨e, e, e, e, e⟩
theorem run_ok : ∃ M2 M4, evD 8 84 [vA 0] M1 = some M2 ∧ mN M2 = 373 ∧ mC M2 = 373 ∧ mS M2 = 98823 ∧ evD 8 127 [vA 373] (newM M2 21 0 89) = some M4 ∧ ∀ p, rcp p = true → p M4 = true := by
  have h := rc1
  unfold rcp at h
  split at h
  · rename_i M2 e2
    rw [Bool.and_eq_true, Bool.and_eq_true, Bool.and_eq_true] at h
    obtain ⟨h1, h2, h3, h4⟩ := h
    split at h4
    · rename_i M4 e4
      refine ⟨M2, M4, e2, Nat.eq_of_beq_eq_true h1, Nat.eq_of_beq_eq_true h2, Nat.eq_of_beq_eq_true h3, e4, fun p hp => ?_⟩
      unfold rcp at hp
      rw [e2] at hp
      dsimp only at hp
      rw [e4] at hp
      dsimp only at hp
      rw [Bool.and_eq_true, Bool.and_eq_true, Bool.and_eq_true] at hp
      exact hp.2.2.2
    · cases h4
  · cases h
theorem all_r {n : Nat} {p : Nat → Bool} (h : (List.range n).all p = true) : ∀ i, i < n → p i = true := fun i hi => List.all_eq_true.mp h i (List.mem_range.mpr hi)
theorem drop_take {q : Int × Int × Int} {l : List (Int × Int × Int)} : ∀ n, q ∈ l.drop n → q ∈ (l.drop n).take 90 ∨ q ∈ l.drop (n + 90) := fun n h => by
  rw [← List.take_append_drop 90 (l.drop n), List.mem_append, List.drop_drop] at h
  exact h
theorem chk_s {M : Mm} (hI : INV M) (h : ∀ p, rcp p = true → p M = true) : mY M = Y1 ∧ JX (mF M) (mA M) (mR M) := by
  have c1 := h _ rc1
  have c2 := h _ rc2
  have c7 := h _ rc7
  unfold ck1 at c1
  unfold ck2 at c2
  unfold ck4 at c7
  rw [Bool.and_eq_true, Bool.and_eq_true, Bool.and_eq_true, Bool.and_eq_true] at c1
  rw [Bool.and_eq_true, Bool.and_eq_true] at c2 c7
  obtain ⟨h1, h2, h3, h4, h5⟩ := c1
  obtain ⟨h6, h7, h8⟩ := c2
  obtain ⟨h9, h10, h11⟩ := c7
  have e1 := Nat.eq_of_beq_eq_true h1
  have e2 := Nat.eq_of_beq_eq_true h2
  have e3 := Nat.eq_of_beq_eq_true h3
  have kK := (kc_s (d := 99) _ _ _ h4).2
  have kL := (kc_s (d := 0) _ _ _ h5).2
  rw [List.reverse_reverse] at kK kL
  have l1 : YKL.length = 424 := by decide +kernel
  have l2 : YLL.length = 424 := by decide +kernel
  have kR : ∀ q ∈ RCL, mR M q.1 q.2.1 = q.2.2 := fun q hq => by
    rcases drop_take 0 (show q ∈ RCL.drop 0 from hq) with z | z
    · exact lkQ_s (List.all_eq_true.mp (h _ rc3) q z)
    · rcases drop_take 90 z with z | z
      · exact lkQ_s (List.all_eq_true.mp (h _ rc4) q z)
      · rcases drop_take 180 z with z | z
        · exact lkQ_s (List.all_eq_true.mp (h _ rc5) q z)
        · rcases drop_take 270 z with z | z
          · exact lkQ_s (List.all_eq_true.mp (h _ rc6) q z)
          · rw [rc8] at z; cases z
  refine ⟨Prod.ext (funext fun x => ?_) (Prod.ext (funext fun x => ?_) (Prod.ext e1 (Prod.ext e2 e3))), jx_of ⟨kR, fun i i0 i1 => ?_, fun i i0 i1 => ?_, fun i i0 i1 => ?_⟩ (fun q hq => lkQ_s (List.all_eq_true.mp h6 q hq)) (fun q hq => lkQ_s (List.all_eq_true.mp h7 q hq)) (fun q hq => lkQ_s (List.all_eq_true.mp h8 q hq))⟩
  · show mK M x = if 0 ≤ x then YKL.getD x.toNat 99 else 99
    by_cases h0 : 0 ≤ x
    · rw [if_pos h0]
      by_cases hx : x < 424
      · have z := kK x.toNat (by omega)
        rw [show ((x.toNat : Nat) : Int) = x by omega] at z
        show (lk 99 M.2.2.2.1 x 0).toNat = _
        rw [z, List.getD_eq_getElem?_getD, List.getD_eq_getElem?_getD, List.getElem?_map]
        cases YKL[x.toNat]? with
        | none => rfl
        | some v => rfl
      · rw [List.getD_eq_getElem?_getD, List.getElem?_eq_none (by omega)]
        by_cases y : mK M x = 99
        · exact y
        · have := hI.k y; omega
    · rw [if_neg h0]
      by_cases y : mK M x = 99
      · exact y
      · have := hI.k y; omega
  · show mL M x = if 0 ≤ x then YLL.getD x.toNat 0 else 0
    have out : ¬ (0 ≤ x ∧ x < 424) → mL M x = 0 := fun hn => lk_out _ (fun e he => by have := hI.2.2.2.2 e he; omega) 0
    by_cases h0 : 0 ≤ x
    · rw [if_pos h0]
      by_cases hx : x < 424
      · have z := kL x.toNat (by omega)
        rw [show ((x.toNat : Nat) : Int) = x by omega] at z
        exact z
      · rw [List.getD_eq_getElem?_getD, List.getElem?_eq_none (by omega)]
        exact out (by omega)
    · rw [if_neg h0]
      exact out (by omega)
  · have := of_decide_eq_true (all_r h9 i.toNat (by omega))
    rw [lkB_s, show ((i.toNat : Nat) : Int) = i by omega] at this
    exact this
  · have := of_decide_eq_true (all_r h10 i.toNat (by omega))
    rw [lkB_s, show ((i.toNat : Nat) : Int) = i by omega] at this
    exact this
  · have := of_decide_eq_true (all_r h11 i.toNat (by omega))
    rw [lkB_s, show ((i.toNat : Nat) : Int) = i by omega] at this
    exact this
theorem mcL : MCo 231 = 600000 ∧ MSo 231 = 7302250 := by decide +kernel
/-- the law, from its entry -/
theorem lw_start {X : Int × (Int → Int)} (h0 : 0 ≤ X.1) (hL : X.1 ≤ 3584) : Gt TT MCo MSo X.1 X.2 (En TT MCo MSo NLo LGo X.1 X.2 64) (fun v _ _ _ _ => v = vI 1) 231 0 0 0 [v5, vN, vN, vN] [] (mF M0) (mA M0) (mR M0) (mY M0) := by
  obtain ⟨M2, M4, e2, n2, c2, s2, e4, k4⟩ := run_ok
  have i1 : INV M1 := inv0.new
  obtain ⟨i2, a2⟩ := evD_s (L := X.1) (xs := X.2) 8 64 (by decide) _ _ _ _ e2 i1
  have i3 : INV (newM M2 21 0 89) := i2.new
  obtain ⟨i4, a4⟩ := evD_s (L := X.1) (xs := X.2) 8 64 (by decide) _ _ _ _ e4 i3
  obtain ⟨ey, hj⟩ := chk_s i4 k4
  have uF : up2 (mF M0) (mN M0) (fun _ => 0) = mF M1 := lk_up (fun e he => by cases he)
  have uR : up2 (mR M0) (mN M0) (fun _ => -1) = mR M1 := lk_up (fun e he => by cases he)
  have vF : up2 (mF M2) (mN M2) (fun _ => 0) = mF (newM M2 21 0 89) := lk_up (fun e he => (i2.1 e he).2)
  have vR : up2 (mR M2) (mN M2) (fun _ => -1) = mR (newM M2 21 0 89) := lk_up (fun e he => (i2.2.2.1 e he).2)
  refine Blk.run (En_mono _) (e := 7) [(58, 10, 0, 0, 0, []), (32, 0, 0, 0, 0, []), (90, 84, 1, 98804, 37220, [])] 0 (by decide +kernel) ?_
  refine ⟨by rw [mcL.1]; decide, by rw [mcL.2]; decide, (show (yNew (mY M0) 20 0 19).1 0 = 20 by rw [← new_Y]; decide +kernel), by rw [mcL.1]; decide, by rw [mcL.2]; decide, ?_⟩
  show En TT MCo MSo NLo LGo X.1 X.2 64 84 [vA 0] (up2 (mF M0) (mN M0) fun _ => 0) (mA M0) (up2 (mR M0) (mN M0) fun _ => -1) (yNew (mY M0) 20 0 19) _
  rw [uF, uR, ← new_Y]
  refine a2 _ ?_
  have hk21 : (yNew (mY M2) 21 0 89).1 373 = 21 := by
    show (if (373 : Int) = ((mN M2 : Nat) : Int) then 21 else mK M2 373) = 21
    rw [n2]; rfl
  have en2 : ((mY M2).2.2.1 : Int) = 373 := by show ((mN M2 : Nat) : Int) = 373; rw [n2]; rfl
  refine Blk.run (En_mono _) (e := 15) [(3, 1, 2, 0, 0, []), (58, 11, 0, 0, 0, []), (32, 0, 0, 0, 0, []), (90, 127, 1, 36688, 5021, [])] 7 (by decide +kernel) ?_
  refine ⟨by decide, (show mC M2 + 1 ≤ 0 + MCo 231 by rw [mcL.1, c2]; decide), (show mS M2 + nfOf 11 ≤ 0 + MSo 231 by rw [mcL.2, s2]; decide), (show (yNew (mY M2) 21 0 89).1 ((mN M2 : Nat) : Int) = 21 by rw [n2]; exact hk21), (show mC M2 + 1 + 50 ≤ 0 + MCo 231 by rw [mcL.1, c2]; decide), (show mS M2 + nfOf 11 + 36688 ≤ 0 + MSo 231 by rw [mcL.2, s2]; decide), ?_⟩
  show En TT MCo MSo NLo LGo X.1 X.2 64 127 [vA ((mN M2 : Nat) : Int)] (up2 (mF M2) (mN M2) fun _ => 0) (mA M2) (up2 (mR M2) (mN M2) fun _ => -1) (yNew (mY M2) 21 0 89) _
  rw [vF, vR, ← new_Y]
  have en2' : ((mN M2 : Nat) : Int) = 373 := en2
  rw [en2']
  refine a4 _ ?_
  show Gt TT MCo MSo X.1 X.2 (En TT MCo MSo NLo LGo X.1 X.2 64) (fun v _ _ _ _ => v = vI 1) 231 0 0 15 [v5, vA 0, vN, vN] [vA ((mN M2 : Nat) : Int)] (mF M4) (mA M4) (mR M4) (mY M4)
  rw [ey, en2']
  refine Blk.run (En_mono _) (e := 18) [(3, 2, 2, 0, 0, []), (0, 0, 0, 0, 0, []), (3, 3, 0, 0, 0, [])] 15 (by decide +kernel) (⟨by decide, by decide, ?_⟩)
  exact lw_loop h0 hL X.1.toNat 0 (mF M4) (mA M4) (mR M4) (by omega) (Int.le_refl 0) hj
