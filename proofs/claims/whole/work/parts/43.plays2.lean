/-! plays, play, stolen -/
theorem psN_cong {hi : Int} {T T' : Nat → Int} : ∀ n : Nat, (∀ t, 1 ≤ t → t ≤ n → T t = T' t) → psN hi T n = psN hi T' n
  | 0, _ => rfl
  | n + 1, h => by
    show psS hi (T (n + 1)) _ (psN hi T n) = psS hi (T' (n + 1)) _ (psN hi T' n)
    rw [psN_cong n (fun t a b => h t a (by omega)), h (n + 1) (by omega) (by omega)]
theorem cnN_cong {hi : Int} {T T' : Nat → Int} {n : Nat} (h : ∀ t, 1 ≤ t → t ≤ n → T t = T' t) : cnN hi T n = cnN hi T' n := by
  unfold cnN; rw [psN_cong n h]
/-- what shelf i's spring throws when it is tried otherwise -/
def zzG (σ : Sg) (i : Nat) (jn lr lg : Int) (w : Int → Int) (t : Nat) : Fn2 := runS (σ.2.1 i) (LwF σ.2.2) (σ.1 0 1) jn lr lg w t
def thG (σ : Sg) (i : Nat) (jn lr lg : Int) (w : Int → Int) (t : Nat) : Int := zzG σ i jn lr lg w t 9 15
theorem it_run {τ β : Prop} {P s : Fn2} {L : Nat → Lw4} {cw jn lr lg : Int} {w : Int → Int} (hP : WFP P) (h : SEq τ β P s (zeroS w)) : ∀ n, SEq τ β P (itS (tickA P L cw jn lr lg) n s) (runS P L cw jn lr lg w n)
  | 0 => h
  | n + 1 => (tick_cong hP PEq.refl (it_run hP h n)).weak (fun _ => trivial) id
theorem r_it {σ : Sg} {b : Int → Int} {F A s : Fn2} {i : Nat} {jn lr lg : Int} {w w' : Int → Int} (hS : SgI σ) (hX : XI σ b F A) (hi : i < 4) (hs : SEq True True (RPm (b i) A) s (zeroS w')) (hw : ∀ r, 0 ≤ r → r < σ.2.1 i 0 0 → w r = w' r) (n : Nat) : SEq True True (σ.2.1 i) (zzG σ i jn lr lg w n) (itS (tickA (RPm (b i) A) (LwF σ.2.2) (σ.1 0 1) jn lr lg) n s) := by
  have hP := hS.2.2.2.2.2.2.1 i hi
  have he := (hX.2.2.1 i hi).2.1
  have hP' := (hX.2.2.1 i hi).2.2
  have h1 : SEq True True (σ.2.1 i) (zzG σ i jn lr lg w n) (runS (RPm (b i) A) (LwF σ.2.2) (σ.1 0 1) jn lr lg w' n) := run_cong hP he hw n
  have h2 := it_run (L := LwF σ.2.2) (cw := σ.1 0 1) (jn := jn) (lr := lr) (lg := lg) hP' hs n
  exact h1.trans ((h2.of0 he.1.symm).symm)
theorem r_T {σ : Sg} {b : Int → Int} {F A s : Fn2} {i : Nat} {jn lr lg : Int} {w w' : Int → Int} (hS : SgI σ) (hX : XI σ b F A) (hi : i < 4) (hs : SEq True True (RPm (b i) A) s (zeroS w')) (hw : ∀ r, 0 ≤ r → r < σ.2.1 i 0 0 → w r = w' r) (n : Nat) : itS (tickA (RPm (b i) A) (LwF σ.2.2) (σ.1 0 1) jn lr lg) n s 9 15 = thG σ i jn lr lg w n := ((r_it hS hX hi hs hw n).2.2.1 trivial).symm
/-- a course of the reference from its beginning, tried otherwise or not -/
theorem x_crs {X : Int × (Int → Int)} {k : Nat} {Q : Vv → Fn2 → Fn2 → Fn2 → Prop} {F A R : Fn2} {σ : Sg} {b : Int → Int} {F0 A0 : Fn2} {i N : Nat} {jn lr lg : Int} {w w' : Int → Int} {s : Fn2} (hR : RS R) (hS : SgI σ) (hX : XI σ b F0 A0) (hi : i < 4) (hN : N ≤ 1000) (hlg : 0 ≤ lg) (hlg2 : lg ≤ 50) (hlr : lr < σ.2.1 i 0 0) (h56 : F 373 56 = σ.1 0 2) (hrq : RQ (b i) (σ.1 0 1) jn 0 (RPm (b i) A0) σ.2.2 s F A) (hs : SEq True True (RPm (b i) A0) s (zeroS w')) (hw : ∀ r, 0 ≤ r → r < σ.2.1 i 0 0 → w r = w' r) (hI : Iv (RPm (b i) A0) 0 0 0 0 0 s)
    (hq : ∀ F' A', F' 373 61 = min (cnN (σ.1 0 2) (thG σ i jn lr lg w) N) 200 → PlR 405 406 407 (psN (σ.1 0 2) (thG σ i jn lr lg w) N) A' → RX F A F' A' → Q vN F' A' R) : Wp X (k + 7) m_X11_course [vA 373, vI N, vI lr, vI lg] F A R Q := by
  have hP' := (hX.2.2.1 i hi).2.2
  have he := (hX.2.2.1 i hi).2.1
  have hI' : Iv (RPm (b i) A0) 0 1920 0 0 0 s := hI.mono (by omega) (by omega) (by omega) (by omega) (by omega)
  refine x_course (k := k) (T := fun t => itS (tickA (RPm (b i) A0) (LwF σ.2.2) (σ.1 0 1) jn lr lg) t s 9 15) hR hP' hI' (by omega) (by omega) (by omega) (by omega) (by omega) hS.2.1.1 hS.2.1.2 hlg hlg2 (by rw [← he.1]; exact hlr) h56 (fun _ => rfl) hrq fun F' A' y1 y2 y3 y4 => ?_
  have e : psN (σ.1 0 2) (fun t => itS (tickA (RPm (b i) A0) (LwF σ.2.2) (σ.1 0 1) jn lr lg) t s 9 15) N = psN (σ.1 0 2) (thG σ i jn lr lg w) N := psN_cong N fun t _ _ => r_T hS hX hi hs hw t
  unfold cnN at y2
  rw [e] at y2 y3
  exact hq F' A' y2 y3 y4
theorem thG_th {σ : Sg} {i : Nat} : thG σ i 1 (-1) 0 (σ.2.1 i 5) = th σ i := rfl
theorem x_beginX {X : Int × (Int → Int)} {k : Nat} {Q : Vv → Fn2 → Fn2 → Fn2 → Prop} {F A R : Fn2} {σ : Sg} {b : Int → Int} {i : Nat} (hR : RS R) (hX : XI σ b F A) (hi : i < 4) (hq : ∀ F' A' s, RF F A F' A' → XI σ b F' A' → RQ (b i) (σ.1 0 1) 1 0 (RPm (b i) A) σ.2.2 s F' A' → SEq True True (RPm (b i) A) s (zeroS (RPm (b i) A 5)) → Iv (RPm (b i) A) 0 0 0 0 0 s → F' 373 56 = σ.1 0 2 → F' 373 57 = 1 → (∀ r, 0 ≤ r → r < 8 → s 2 r = RPm (b i) A 5 r) → (∀ f, f < 48 ∨ 54 < f ∧ f ≠ 57 → F' 373 f = F 373 f) → (∀ a, a < 398 ∨ 400 < a → A' a = A a) → Q vN F' A' R) : Wp X (k + 1) m_X11_begin [vA 373, vI i] F A R Q := by
  have hG := hX.xg hi
  refine x_begin (k := k) hR (by omega) (by omega) (hX.2.2.1 i hi).1 ⟨hG.1, hG.2.1⟩ hG.2.2.2.2 rfl fun F' A' hB => ?_
  have hx := hB.b.rf
  obtain ⟨s, s1, s2, s3, s4, s5⟩ := id hB.2.2.2.2.2.1
  refine hq F' A' s hx (hX.rf hx) (hB.rq hG hX.2.2.2.2.2.2.2.2.1 s1 s2) s3 s4 ?_ hB.2.2.1 s5 (fun f hf => hB.2.2.2.2.2.2.2 _ _ (by omega)) hB.2.2.2.2.2.2.1
  rw [hB.2.2.2.2.2.2.2 _ _ (by omega)]; exact hX.2.2.2.2.2.2.2.2.2.1
theorem x_courseOf {X : Int × (Int → Int)} {k : Nat} {Q : Vv → Fn2 → Fn2 → Fn2 → Prop} {F A R : Fn2} {σ : Sg} {b : Int → Int} {i N : Nat} (hR : RS R) (hS : SgI σ) (hX : XI σ b F A) (hi : i < 4) (hN : N ≤ 1000) (hq : ∀ F' A', XI σ b F' A' → RF F A F' A' → F' 373 61 = min (cnN (σ.1 0 2) (th σ i) N) 200 → PlR 405 406 407 (psN (σ.1 0 2) (th σ i) N) A' → (∀ f, 80 ≤ f ∧ f ≤ 85 → F' 373 f = F 373 f) → (∀ a, 408 ≤ a → A' a = A a) → F' 373 49 = σ.2.1 i 0 0 → Q vN F' A' R) : Wp X (k + 8) m_X11_courseOf [vA 373, vI i, vI N] F A R Q := by
  have he := (hX.2.2.1 i hi).2.1
  refine Wp.of [vA 373, vI i, vI N] rfl rfl rfl (b_X11_courseOf_0 (x_beginX (k := k + 6) hR hX hi fun F1 A1 s x1 hX1 hrq hs hI h56 h57 hw hf hA => b_X11_courseOf_5 ?_))
  refine x_crs (k := k) (w := σ.2.1 i 5) hR hS hX hi hN (by omega) (by omega) ?_ h56 hrq hs (fun r a b => (he.2.2.1 r a b).2.2.2.1) hI fun F2 A2 y1 y2 y3 => b_X11_courseOf_12 ?_
  · have := (hS.2.2.2.2.2.2.1 i hi).1; omega
  · rw [thG_th] at y1 y2
    have x2 := y3.b.rf
    refine hq F2 A2 (hX1.rf x2) (x1.trans x2) y1 y2 (fun f hf' => ?_) (fun a ha => ?_) ?_
    · rw [y3.2 _ _ (by omega), hf f (by omega)]
    · rw [y3.1 a (by omega), hA a (by omega)]
    · rw [y3.2 _ _ (by omega), hrq.1.2.2.2.2.1]; exact he.1.symm
def ansPlays (σ : Sg) (s n : Int) : Int := if (0 ≤ s ∧ s < 4) ∧ (1 ≤ n ∧ n ≤ 1000) then min (cnN (σ.1 0 2) (th σ s.toNat) n.toNat) 200 else -1
theorem c_plays {X : Int × (Int → Int)} {k : Nat} {Q : Vv → Fn2 → Fn2 → Fn2 → Prop} {F A R : Fn2} {σ : Sg} {q : Int → Int} {l s n : Int} (hS : SgI σ) (hB : CB σ q l F A R) (hC : CC σ q l F A R) (hq : ∀ F' A' R', CQ σ q l F A R F' A' R' → Q (vI (ansPlays σ s n)) F' A' R') : Wp X (k + 9) m_X10_plays [vA 0, vI s, vI n] F A R Q := by
  have no : ¬ ((0 ≤ s ∧ s < 4) ∧ (1 ≤ n ∧ n ≤ 1000)) → Q (vI (-1)) F A R := by
    intro h
    have := hq F A R (CQ.refl hB hC)
    unfold ansPlays at this; rwa [if_neg h] at this
  refine Wp.of [vA 0, vI s, vI n] rfl rfl rfl (b_X10_plays_0 (w_isShelf (k := k + 7) (fun h0 h4 => ?_) (fun h => b_X10_plays_4 ⟨fun _ => no (fun h' => h h'.1), fun h => absurd rfl h⟩)))
  refine b_X10_plays_4 ⟨fun h => absurd h (by decide), fun _ => w_isCourse (k := k + 7) (fun n0 n1 => ?_) (fun h => b_X10_plays_11 ⟨fun h => absurd rfl h, fun _ => no (fun h' => h h'.2)⟩)⟩
  have hi : s.toNat < 4 := by omega
  rw [show s = (s.toNat : Int) by omega, show n = (n.toNat : Int) by omega]
  refine b_X10_plays_11 ⟨fun _ => w_rcp (k := k) hS hB hC hi (by omega) fun F' A' R' y1 y2 y3 => b_X10_plays_22 y1.1.1 ?_, fun h => absurd h (by decide)⟩
  have hv := hq F' A' R' y1
  unfold ansPlays at hv
  rw [if_pos ⟨⟨h0, h4⟩, ⟨n0, n1⟩⟩] at hv
  rw [y3.1]; exact hv
theorem r_plays {X : Int × (Int → Int)} {k : Nat} {Q : Vv → Fn2 → Fn2 → Fn2 → Prop} {F A R : Fn2} {σ : Sg} {b : Int → Int} {s n : Int} (hR : RS R) (hS : SgI σ) (hX : XI σ b F A) (hq : ∀ F' A', XI σ b F' A' → RF F A F' A' → ((0 ≤ s ∧ s < 4) ∧ (1 ≤ n ∧ n ≤ 1000) → PlR 405 406 407 (psN (σ.1 0 2) (th σ s.toNat) n.toNat) A') → Q (vI (ansPlays σ s n)) F' A' R) : Wp X (k + 9) m_X11_plays [vA 373, vI s, vI n] F A R Q := by
  have no : ¬ ((0 ≤ s ∧ s < 4) ∧ (1 ≤ n ∧ n ≤ 1000)) → Q (vI (-1)) F A R := by
    intro h
    have := hq F A hX RF.refl (fun h' => absurd h' h)
    unfold ansPlays at this; rwa [if_neg h] at this
  refine Wp.of [vA 373, vI s, vI n] rfl rfl rfl (b_X11_plays_0 (x_isShelf (k := k + 7) (fun h0 h4 => ?_) (fun h => b_X11_plays_4 ⟨fun _ => no (fun h' => h h'.1), fun h => absurd rfl h⟩)))
  refine b_X11_plays_4 ⟨fun h => absurd h (by decide), fun _ => x_isCourse (k := k + 6) (fun n0 n1 => ?_) (fun h => b_X11_plays_11 ⟨fun h => absurd rfl h, fun _ => no (fun h' => h h'.2)⟩)⟩
  have hi : s.toNat < 4 := by omega
  rw [show s = (s.toNat : Int) by omega, show n = (n.toNat : Int) by omega]
  refine b_X11_plays_11 ⟨fun _ => x_courseOf (k := k) hR hS hX hi (by omega) fun F' A' y1 y2 y3 y4 _ _ _ => b_X11_plays_22 ?_, fun h => absurd h (by decide)⟩
  have hv := hq F' A' y1 y2 (fun _ => y4)
  unfold ansPlays at hv
  rw [if_pos ⟨⟨h0, h4⟩, ⟨n0, n1⟩⟩] at hv
  rw [y3]; exact hv
def ansPlay (σ : Sg) (s n i w : Int) : Int :=
  if 0 ≤ i ∧ i < ansPlays σ s n then (let p := psN (σ.1 0 2) (th σ s.toNat) n.toNat
    if w = 0 then p 0 i else if w = 1 then p 1 i else if w = 2 then p 2 i else if w = 3 then (if i = 0 then -1 else p 0 i - p 0 (i - 1) - p 1 (i - 1)) else -1)
  else -1
/-- the like of both sides: the list of plays is read -/
theorem play_tail {σ : Sg} {s n i w : Int} {A : Fn2} {a b c : Int} {Q : Int → Prop} (h : (0 ≤ s ∧ s < 4) ∧ (1 ≤ n ∧ n ≤ 1000)) (hi : 0 ≤ i) (hp : PlR a b c (psN (σ.1 0 2) (th σ s.toNat) n.toNat) A) (hv : Q (ansPlay σ s n i w)) : (i < ansPlays σ s n → ((w = 0 → (0 ≤ i ∧ i < 200 ∧ Q (A a i))) ∧ (¬ (w = 0) → ((w = 1 → (0 ≤ i ∧ i < 200 ∧ Q (A b i))) ∧ (¬ (w = 1) → ((w = 2 → (0 ≤ i ∧ i < 200 ∧ Q (A c i))) ∧ (¬ (w = 2) → ((w = 3 → ((¬ i = 0 → (0 ≤ i ∧ i < 200 ∧ (-2147483648 ≤ i - 1 ∧ i - 1 ≤ 2147483647) ∧ 0 ≤ i - 1 ∧ i - 1 < 200 ∧ (-2147483648 ≤ (A a i) - (A a (i - 1)) ∧ (A a i) - (A a (i - 1)) ≤ 2147483647) ∧ (-2147483648 ≤ ((A a i) - (A a (i - 1))) - (A b (i - 1)) ∧ ((A a i) - (A a (i - 1))) - (A b (i - 1)) ≤ 2147483647) ∧ Q (((A a i) - (A a (i - 1))) - (A b (i - 1))))) ∧ (i = 0 → Q (-1)))) ∧ (¬ (w = 3) → Q (-1)))))))))) ∧ (¬ (i < ansPlays σ s n) → Q (-1)) := by
  have eP : ansPlays σ s n = min (psN (σ.1 0 2) (th σ s.toNat) n.toNat 3 0) 200 := by unfold ansPlays; rw [if_pos h]; rfl
  have hI := plI (hi := σ.1 0 2) (T := th σ s.toNat) n.toNat
  unfold ansPlay at hv
  refine ⟨fun hlt => ?_, fun hge => ?_⟩
  · rw [if_pos ⟨hi, hlt⟩] at hv
    rw [eP] at hlt
    have h1 := hp i hi hlt
    have h2 := hI.2.2.2 i hi hlt
    dsimp only at hv
    refine ⟨fun w0 => ⟨by omega, by omega, ?_⟩, fun w0 => ⟨fun w1 => ⟨by omega, by omega, ?_⟩, fun w1 => ⟨fun w2 => ⟨by omega, by omega, ?_⟩, fun w2 => ⟨fun w3 => ⟨fun hz => ?_, fun hz => ?_⟩, fun w3 => ?_⟩⟩⟩⟩
    · rw [if_pos w0] at hv; rw [h1.1]; exact hv
    · rw [if_neg w0, if_pos w1] at hv; rw [h1.2.1]; exact hv
    · rw [if_neg w0, if_neg w1, if_pos w2] at hv; rw [h1.2.2]; exact hv
    · rw [if_neg w0, if_neg w1, if_neg w2, if_pos w3, if_neg hz] at hv
      have h3 := hp (i - 1) (by omega) (by omega)
      have h4 := hI.2.2.2 (i - 1) (by omega) (by omega)
      rw [h1.1, h3.1, h3.2.1]
      exact ⟨by omega, by omega, by omega, by omega, by omega, by omega, by omega, hv⟩
    · rw [if_neg w0, if_neg w1, if_neg w2, if_pos w3, if_pos hz] at hv; exact hv
    · rw [if_neg w0, if_neg w1, if_neg w2, if_neg w3] at hv; exact hv
  · rw [if_neg (fun h => hge h.2)] at hv; exact hv
theorem c_play {X : Int × (Int → Int)} {k : Nat} {Q : Vv → Fn2 → Fn2 → Fn2 → Prop} {F A R : Fn2} {σ : Sg} {q : Int → Int} {l s n i w : Int} (hS : SgI σ) (hB : CB σ q l F A R) (hC : CC σ q l F A R) (hq : ∀ F' A' R', CQ σ q l F A R F' A' R' → Q (vI (ansPlay σ s n i w)) F' A' R') : Wp X (k + 9) m_X10_play [vA 0, vI s, vI n, vI i, vI w] F A R Q := by
  have no : ¬ (((0 ≤ s ∧ s < 4) ∧ (1 ≤ n ∧ n ≤ 1000)) ∧ 0 ≤ i) → Q (vI (-1)) F A R := by
    intro h
    have := hq F A R (CQ.refl hB hC)
    unfold ansPlay at this
    rw [if_neg] at this
    · exact this
    · intro h'
      refine h ⟨?_, h'.1⟩
      unfold ansPlays at h'
      by_cases hc : (0 ≤ s ∧ s < 4) ∧ (1 ≤ n ∧ n ≤ 1000)
      · exact hc
      · rw [if_neg hc] at h'; omega
  refine Wp.of [vA 0, vI s, vI n, vI i, vI w] rfl rfl rfl (b_X10_play_0 (w_isShelf (k := k + 7) (fun h0 h4 => ?_) (fun h => b_X10_play_4 ⟨fun _ => no (fun h' => h h'.1.1), fun h => absurd rfl h⟩)))
  refine b_X10_play_4 ⟨fun h => absurd h (by decide), fun _ => w_isCourse (k := k + 7) (fun n0 n1 => ?_) (fun h => b_X10_play_11 ⟨fun _ => no (fun h' => h h'.1.2), fun h => absurd rfl h⟩)⟩
  refine b_X10_play_11 ⟨fun h => absurd h (by decide), fun _ => ⟨fun hi0 => ?_, fun h => no (fun h' => by omega)⟩⟩
  have hi : s.toNat < 4 := by omega
  have hy : (0 ≤ s ∧ s < 4) ∧ (1 ≤ n ∧ n ≤ 1000) := ⟨⟨h0, h4⟩, ⟨n0, n1⟩⟩
  rw [show s = (s.toNat : Int) by omega, show n = (n.toNat : Int) by omega]
  refine w_rcp (k := k) hS hB hC hi (by omega) fun F' A' R' y1 y2 y3 => b_X10_play_26 y1.1.1 ?_
  have hv := hq F' A' R' y1
  have := play_tail (Q := fun v => Q (vI v) F' A' R') hy (show 0 ≤ i by omega) y3.2 hv
  have e3 : F' 58 3 = ansPlays σ s n := by rw [y3.1]; unfold ansPlays; rw [if_pos hy]
  rw [e3]
  exact this
theorem r_play {X : Int × (Int → Int)} {k : Nat} {Q : Vv → Fn2 → Fn2 → Fn2 → Prop} {F A R : Fn2} {σ : Sg} {b : Int → Int} {s n i w : Int} (hR : RS R) (hS : SgI σ) (hX : XI σ b F A) (hq : ∀ F' A', XI σ b F' A' → RF F A F' A' → Q (vI (ansPlay σ s n i w)) F' A' R) : Wp X (k + 10) m_X11_play [vA 373, vI s, vI n, vI i, vI w] F A R Q := by
  refine Wp.of [vA 373, vI s, vI n, vI i, vI w] rfl rfl rfl (b_X11_play_0 ⟨fun h => ?_, fun hi0 => ?_⟩)
  · have := hq F A hX RF.refl
    unfold ansPlay at this
    rwa [if_neg (by omega)] at this
  · refine r_plays (k := k) hR hS hX fun F' A' y1 y2 y3 => b_X11_play_10 hR ?_
    have hv := hq F' A' y1 y2
    by_cases hc : (0 ≤ s ∧ s < 4) ∧ (1 ≤ n ∧ n ≤ 1000)
    · exact play_tail (Q := fun v => Q (vI v) F' A' R) hc (by omega) (y3 hc) hv
    · have e : ansPlays σ s n = -1 := by unfold ansPlays; rw [if_neg hc]
      rw [e]
      refine ⟨fun h => by omega, fun _ => ?_⟩
      unfold ansPlay at hv
      rwa [if_neg (by omega)] at hv
def ansStolen (σ : Sg) (s n : Int) : Int := if (0 ≤ s ∧ s < 4) ∧ (1 ≤ n ∧ n ≤ 1000) then min (cnN (σ.1 0 2) (thG σ s.toNat 0 (-1) 0 (σ.2.1 s.toNat 5)) n.toNat) 200 - min (cnN (σ.1 0 2) (th σ s.toNat) n.toNat) 200 else -1000
theorem c_stolen {X : Int × (Int → Int)} {k : Nat} {Q : Vv → Fn2 → Fn2 → Fn2 → Prop} {F A R : Fn2} {σ : Sg} {q : Int → Int} {l s n : Int} (hS : SgI σ) (hB : CB σ q l F A R) (hC : CC σ q l F A R) (hq : ∀ F' A' R', CQ σ q l F A R F' A' R' → Q (vI (ansStolen σ s n)) F' A' R') : Wp X (k + 9) m_X10_stolen [vA 0, vI s, vI n] F A R Q := by
  have no : ¬ ((0 ≤ s ∧ s < 4) ∧ (1 ≤ n ∧ n ≤ 1000)) → Q (vI (-1000)) F A R := by
    intro h
    have := hq F A R (CQ.refl hB hC)
    unfold ansStolen at this; rwa [if_neg h] at this
  refine Wp.of [vA 0, vI s, vI n] rfl rfl rfl (b_X10_stolen_0 (w_isShelf (k := k + 7) (fun h0 h4 => ?_) (fun h => b_X10_stolen_4 ⟨fun _ => no (fun h' => h h'.1), fun h => absurd rfl h⟩)))
  refine b_X10_stolen_4 ⟨fun h => absurd h (by decide), fun _ => w_isCourse (k := k + 7) (fun n0 n1 => ?_) (fun h => b_X10_stolen_11 ⟨fun h => absurd rfl h, fun _ => no (fun h' => h h'.2)⟩)⟩
  have hi : s.toNat < 4 := by omega
  have hP := hS.2.2.2.2.2.2.1 s.toNat hi
  rw [show s = (s.toNat : Int) by omega, show n = (n.toNat : Int) by omega]
  refine b_X10_stolen_11 ⟨fun _ => w_rcp (k := k) hS hB hC hi (by omega) fun F1 A1 R1 y1 y2 y3 => b_X10_stolen_24 ?_, fun h => absurd h (by decide)⟩
  refine w_beginT (k := k + 5) hS y1.1 y1.2.1 hi fun F2 A2 R2 z z1 z2 z3 z4 z5 z6 z7 => b_X10_stolen_29 z1.1.1 fun F3 hF3 => ?_
  have x3 := f28_cq z1.1 z1.2.1 (F' := F3) (fun a f ha => by rw [hF3, st2_n ha])
  have hT : TrR σ q l s.toNat 0 (-1) 0 z F3 A2 R2 := by
    obtain ⟨t1, t2, t3, t4, t5, t6⟩ := z2
    obtain ⟨a1, a2, a3, a4, ⟨a5, a6, a7⟩, a8⟩ := t1
    have d := (dj_S28 a2).1
    obtain ⟨e0, e1, e2, e3, f5, f6, f7, f8⟩ := t2
    refine ⟨⟨a1, a2, a3, a4, ⟨a5, ?_, ?_⟩, a8⟩, ⟨e0, e1, e2, e3, ?_, ?_, ?_, ?_⟩, ?_, ?_, ?_, ?_⟩ <;> rw [hF3]
    · rw [st2_n d]; exact a6
    · rw [st2_n d]; exact a7
    all_goals (simp only [ne_eq, Int.add_right_inj, Int.reduceEq, not_false_eq_true, st2_n, st2_s, u1_s, u1_u1, u1_n]; try assumption)
  have hrun := it_run (L := LwF σ.2.2) (cw := σ.1 0 1) (jn := 0) (lr := -1) (lg := 0) hP z3
  refine w_rtp (k := k + 1) (N := n.toNat) (T := thG σ s.toNat 0 (-1) 0 (σ.2.1 s.toNat 5)) hS x3.1 x3.2.1 hi (by omega) (by omega) (by omega) (by omega) (by omega) hT (z4.mono (K' := 0) (by omega) (show (0 : Int) ≤ 1920 by omega) (by omega) (by omega) (by omega)) (by omega) (by omega) (by omega) (by omega) (fun t h1 h2 => by omega) (fun t h1 h2 => ?_) fun F4 A4 v1 v2 v3 v4 => b_X10_stolen_46 z1.1.1 ?_
  · rw [show ((1 : Int) - 1).toNat + t = t by omega]
    exact ((hrun t).2.2.1 trivial).symm
  · have e58 : F4 58 3 = min (cnN (σ.1 0 2) (th σ s.toNat) n.toNat) 200 := by
      rw [v4, hF3, st2_n (by decide), z7 _ _ (by decide)]; exact y3.1
    rw [show ((n.toNat : Nat) : Int).toNat = n.toNat by omega] at v2
    rw [v2.1, e58]
    have hcc := ((y1.trans z1).trans x3).trans v1
    have hv := hq F4 A4 R2 hcc
    unfold ansStolen at hv
    rw [if_pos ⟨⟨h0, h4⟩, ⟨n0, n1⟩⟩] at hv
    have b1 := cn_nn (hi := σ.1 0 2) (T := th σ s.toNat) n.toNat
    have b2 := cn_nn (hi := σ.1 0 2) (T := thG σ s.toNat 0 (-1) 0 (σ.2.1 s.toNat 5)) n.toNat
    exact ⟨by omega, hv⟩
theorem r_stolen {X : Int × (Int → Int)} {k : Nat} {Q : Vv → Fn2 → Fn2 → Fn2 → Prop} {F A R : Fn2} {σ : Sg} {b : Int → Int} {s n : Int} (hR : RS R) (hS : SgI σ) (hX : XI σ b F A) (hq : ∀ F' A', XI σ b F' A' → RF F A F' A' → Q (vI (ansStolen σ s n)) F' A' R) : Wp X (k + 9) m_X11_stolen [vA 373, vI s, vI n] F A R Q := by
  have no : ¬ ((0 ≤ s ∧ s < 4) ∧ (1 ≤ n ∧ n ≤ 1000)) → Q (vI (-1000)) F A R := by
    intro h
    have := hq F A hX RF.refl
    unfold ansStolen at this; rwa [if_neg h] at this
  refine Wp.of [vA 373, vI s, vI n, vN] rfl rfl rfl (b_X11_stolen_0 (x_isShelf (k := k + 7) (fun h0 h4 => ?_) (fun h => b_X11_stolen_4 ⟨fun _ => no (fun h' => h h'.1), fun h => absurd rfl h⟩)))
  refine b_X11_stolen_4 ⟨fun h => absurd h (by decide), fun _ => x_isCourse (k := k + 6) (fun n0 n1 => ?_) (fun h => b_X11_stolen_11 ⟨fun h => absurd rfl h, fun _ => no (fun h' => h h'.2)⟩)⟩
  have hi : s.toNat < 4 := by omega
  rw [show s = (s.toNat : Int) by omega, show n = (n.toNat : Int) by omega]
  refine b_X11_stolen_11 ⟨fun _ => x_courseOf (k := k) hR hS hX hi (by omega) fun F1 A1 hX1 y2 y3 y4 _ _ _ => b_X11_stolen_24 fun g1 hg1 => ?_, fun h => absurd h (by decide)⟩
  have he := (hX1.2.2.1 s.toNat hi).2.1
  refine x_beginX (k := k + 7) hR hX1 hi fun F2 A2 z x2 hX2 hrq hz hI h56 h57 hw hf hA => b_X11_stolen_34 fun F3 hF3 => ?_
  have x3 : RF F2 A2 F3 A2 := ⟨fun _ _ => rfl, fun f hf => by rw [hF3, st2_s, u1_n (by omega)], fun a ha => by rw [hF3, st2_n ha]⟩
  have hrq3 : RQ (b s.toNat) (σ.1 0 1) 0 0 (RPm (b s.toNat) A1) σ.2.2 z F3 A2 := by
    obtain ⟨⟨m1, m2, m3, m4, m5, m6⟩, ⟨k1, k2, k3, k4, k5, k6⟩, g3, g4, g5, g6⟩ := hrq
    refine ⟨⟨?_, m2, m3, m4, ?_, m6⟩, ⟨k1, k2, k3, ?_, ?_, ?_⟩, ?_, ?_, ?_, ?_⟩ <;> rw [hF3] <;> simp only [ne_eq, Int.add_right_inj, Int.reduceEq, not_false_eq_true, st2_n, st2_s, u1_s, u1_u1, u1_n] <;> assumption
  refine x_crs (k := k + 1) (w := σ.2.1 s.toNat 5) hR hS hX1 hi (by omega) (by omega) (by omega) ?_ (by rw [hF3]; simp only [ne_eq, Int.add_right_inj, Int.reduceEq, not_false_eq_true, st2_n, st2_s, u1_s, u1_u1, u1_n]; exact h56) hrq3 hz (fun r a b => (he.2.2.1 r a b).2.2.2.1) hI fun F4 A4 v1 v2 v3 => b_X11_stolen_46 ?_
  · have := (hS.2.2.2.2.2.2.1 s.toNat hi).1; omega
  · have x4 := v3.b.rf
    have hv := hq F4 A4 ((hX2.rf x3).rf x4) (((y2.trans x2).trans x3).trans x4)
    unfold ansStolen at hv
    rw [if_pos ⟨⟨h0, h4⟩, ⟨n0, n1⟩⟩] at hv
    rw [v1, hg1, y3]
    have b1 := cn_nn (hi := σ.1 0 2) (T := th σ s.toNat) n.toNat
    have b2 := cn_nn (hi := σ.1 0 2) (T := thG σ s.toNat 0 (-1) 0 (σ.2.1 s.toNat 5)) n.toNat
    exact ⟨by omega, hv⟩
