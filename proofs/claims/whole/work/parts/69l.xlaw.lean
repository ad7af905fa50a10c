/-! THE REFERENCE READS A LAW -/
def wdX (K : Int) : Int := if K = 3 then 100 else if K = 17 then 97 else if K = 18 then 119 else if K = 19 then 104 else 0
theorem x_word {X : Int × (Int → Int)} {k : Nat} {Q : Vv → Fn2 → Fn2 → Fn2 → Prop} {F A R : Fn2} {g : Int → Int} {n p : Int} (hk : TkX g n p F) (hq : Q (vI (wdX (tK g n p))) F A R) : Wp X (k + 2) m_X11_wordHere [vA 373] F A R Q := by
  refine Wp.of [vA 373] rfl rfl rfl (b_X11_wordHere_0 (x_isWord (k := k) 3 hk (by decide) rfl (fun h => b_X11_wordHere_7 ⟨fun z => absurd z (by decide), fun _ => ?_⟩) (fun n3 => b_X11_wordHere_7 ⟨fun _ => ?_, fun z => absurd rfl z⟩)))
  · have h' : tK g n p = 3 := h
    rw [h'] at hq; exact hq
  refine x_isWord (k := k) 17 hk (by decide) rfl (fun h => b_X11_wordHere_20 ⟨fun z => absurd z (by decide), fun _ => ?_⟩) (fun n17 => b_X11_wordHere_20 ⟨fun _ => ?_, fun z => absurd rfl z⟩)
  · have h' : tK g n p = 17 := h
    rw [h'] at hq; exact hq
  refine x_isWord (k := k) 18 hk (by decide) rfl (fun h => b_X11_wordHere_33 ⟨fun z => absurd z (by decide), fun _ => ?_⟩) (fun n18 => b_X11_wordHere_33 ⟨fun _ => ?_, fun z => absurd rfl z⟩)
  · have h' : tK g n p = 18 := h
    rw [h'] at hq; exact hq
  refine x_isWord (k := k) 19 hk (by decide) rfl (fun h => b_X11_wordHere_46 ⟨fun z => absurd z (by decide), fun _ => ?_⟩) (fun n19 => b_X11_wordHere_46 ⟨fun _ => ?_, fun z => absurd rfl z⟩)
  · have h' : tK g n p = 19 := h
    rw [h'] at hq; exact hq
  · have m3 : ¬ tK g n p = 3 := n3
    have m17 : ¬ tK g n p = 17 := n17
    have m18 : ¬ tK g n p = 18 := n18
    have m19 : ¬ tK g n p = 19 := n19
    unfold wdX at hq
    rw [if_neg m3, if_neg m17, if_neg m18, if_neg m19] at hq; exact hq
theorem x_rank {X : Int × (Int → Int)} {k : Nat} {Q : Vv → Fn2 → Fn2 → Fn2 → Prop} {F A R : Fn2} {g : Int → Int} {n p : Int} (ht : TxX g n A R) (hp : 0 ≤ p) (hpn : p ≤ n) (hk : TkX g n p F) (hq : Q (vI (rank (tK g n p))) F A R) : Wp X (k + 3) m_X11_rankHere [vA 373] F A R Q := by
  have is := fun (c : Int) (hc : 23 < c) => @x_is X k
  refine Wp.of [vA 373] rfl rfl rfl (b_X11_rankHere_0 (x_isWord (k := k + 1) 15 hk (by decide) rfl (fun h => b_X11_rankHere_7 ⟨fun z => absurd z (by decide), fun _ => ?_⟩) (fun n1 => b_X11_rankHere_7 ⟨fun _ => ?_, fun z => absurd rfl z⟩)))
  · have h' : tK g n p = 15 := h
    rw [h'] at hq; exact hq
  refine x_isWord (k := k + 1) 14 hk (by decide) rfl (fun h => b_X11_rankHere_19 ⟨fun z => absurd z (by decide), fun _ => ?_⟩) (fun n2 => b_X11_rankHere_19 ⟨fun _ => ?_, fun z => absurd rfl z⟩)
  · have h' : tK g n p = 14 := h
    rw [h'] at hq; exact hq
  refine x_is (k := k) ht hp hpn hk (by decide) (fun h => b_X11_rankHere_30 ⟨fun _ => ?_, fun z => absurd z (by decide)⟩) (fun n3 => b_X11_rankHere_30 ⟨fun z => absurd rfl z, fun _ => ?_⟩)
  · rw [h] at hq; exact hq
  refine x_is (k := k) ht hp hpn hk (by decide) (fun h => b_X11_rankHere_39 ⟨fun _ => ?_, fun z => absurd z (by decide)⟩) (fun n4 => b_X11_rankHere_39 ⟨fun z => absurd rfl z, fun _ => ?_⟩)
  · rw [h] at hq; exact hq
  refine x_is (k := k) ht hp hpn hk (by decide) (fun h => b_X11_rankHere_48 ⟨fun z => absurd z (by decide), fun _ => ?_⟩) (fun n5 => b_X11_rankHere_48 ⟨fun _ => ?_, fun z => absurd rfl z⟩)
  · rw [h] at hq; exact hq
  refine x_is (k := k) ht hp hpn hk (by decide) (fun h => b_X11_rankHere_59 ⟨fun _ => ?_, fun z => absurd z (by decide)⟩) (fun n6 => b_X11_rankHere_59 ⟨fun z => absurd rfl z, fun _ => ?_⟩)
  · rw [h] at hq; exact hq
  refine x_is (k := k) ht hp hpn hk (by decide) (fun h => b_X11_rankHere_68 ⟨fun z => absurd z (by decide), fun _ => ?_⟩) (fun n7 => b_X11_rankHere_68 ⟨fun _ => ?_, fun z => absurd rfl z⟩)
  · rw [h] at hq; exact hq
  refine x_is (k := k) ht hp hpn hk (by decide) (fun h => b_X11_rankHere_79 ⟨fun _ => ?_, fun z => absurd z (by decide)⟩) (fun n8 => b_X11_rankHere_79 ⟨fun z => absurd rfl z, fun _ => ?_⟩)
  · rw [h] at hq; exact hq
  refine x_is (k := k) ht hp hpn hk (by decide) (fun h => b_X11_rankHere_88 ⟨fun z => absurd z (by decide), fun _ => ?_⟩) (fun n9 => b_X11_rankHere_88 ⟨fun _ => ?_, fun z => absurd rfl z⟩)
  · rw [h] at hq; exact hq
  · have n1' : ¬ tK g n p = 15 := n1
    have n2' : ¬ tK g n p = 14 := n2
    unfold rank at hq
    rw [if_neg n1', if_neg n2', if_neg (by omega), if_neg (by omega), if_neg (by omega)] at hq; exact hq
/-- the pile in its cells -/
def PR (A : Fn2) : Pl → Prop
  | [] => True
  | (w, c) :: s => A 394 s.length = w ∧ (w ≤ 6 → rop c (A 395 s.length) 0) ∧ PR A s
def XPl (s : Pl) (F A : Fn2) : Prop := F 373 40 = s.length ∧ F 373 39 = wth s ∧ PR A s
def XCd (cs : List Int) (u : Int) (F A : Fn2) : Prop := F 373 37 = cs.length ∧ F 373 38 = u ∧ RCR (fun i => A 392 (500 + i)) (fun i => A 393 (500 + i)) 0 cs
def okP : Pl → Prop
  | [] => False
  | (w, _) :: s => w = 8 ∧ s = [] ∨ 1 ≤ w ∧ w ≤ 7 ∧ okP s
def nn : Pl → Int
  | [] => 0
  | (w, _) :: s => (if w = 3 then 0 else 1) + nn s
theorem nn_len : ∀ s : Pl, (s.length : Int) = nn s + nts s
  | [] => rfl
  | (w, c) :: s => by
    have := nn_len s
    show ((s.length + 1 : Nat) : Int) = (if w = 3 then 0 else 1) + nn s + ((if w = 3 then 1 else 0) + nts s)
    split <;> omega
theorem PR.e {A A' : Fn2} : ∀ (s : Pl), (∀ i : Int, 0 ≤ i → i < s.length → A' 394 i = A 394 i ∧ A' 395 i = A 395 i) → PR A s → PR A' s
  | [], _, _ => trivial
  | (w, c) :: s, h, ⟨h1, h2, h3⟩ => by
    have l : ((((w, c) :: s : Pl).length : Nat) : Int) = s.length + 1 := rfl
    have e := h s.length (by omega) (by omega)
    exact ⟨by rw [e.1]; exact h1, fun z => by rw [e.2]; exact h2 z, h3.e s (fun i a b => h i a (by omega))⟩
theorem rcr_app {f g : Int → Int} : ∀ (a b : List Int) (i : Int), RCR f g i (a ++ b) ↔ RCR f g i a ∧ RCR f g (i + a.length) b
  | [], b, i => by
    show RCR f g i b ↔ True ∧ RCR f g (i + (0 : Nat)) b
    rw [show i + ((0 : Nat) : Int) = i by omega]; exact ⟨fun h => ⟨trivial, h⟩, fun h => h.2⟩
  | c :: a, b, i => by
    show rop c (f i) (g i) ∧ RCR f g (i + 1) (a ++ b) ↔ (rop c (f i) (g i) ∧ RCR f g (i + 1) a) ∧ RCR f g (i + ((a.length + 1 : Nat) : Int)) b
    rw [rcr_app a b (i + 1), show i + 1 + (a.length : Int) = i + ((a.length + 1 : Nat) : Int) by omega]
    exact ⟨fun h => ⟨⟨h.1, h.2.1⟩, h.2.2⟩, fun h => ⟨h.1.1, h.1.2, h.2⟩⟩
theorem rcr_e {f g f' g' : Int → Int} : ∀ (a : List Int) (i : Int), (∀ j, i ≤ j → j < i + a.length → f' j = f j ∧ g' j = g j) → RCR f g i a → RCR f' g' i a
  | [], _, _, _ => trivial
  | c :: a, i, h, hc => by
    have l : (((c :: a).length : Nat) : Int) = a.length + 1 := rfl
    have e := h i (by omega) (by omega)
    exact ⟨by rw [e.1, e.2]; exact hc.1, rcr_e a (i + 1) (fun j x y => h j (by omega) (by omega)) hc.2⟩
/-- the frame of a law's reading -/
def XFr (F A F' A' : Fn2) : Prop := (∀ a f, a ≠ 373 ∨ (f < 4 ∨ 10 < f) ∧ (f < 37 ∨ 40 < f) → F' a f = F a f) ∧ (∀ a, a ≠ 392 → a ≠ 393 → a ≠ 394 → a ≠ 395 → A' a = A a) ∧ ∀ i, i < 500 → A' 392 i = A 392 i ∧ A' 393 i = A 393 i
theorem XFr.refl {F A : Fn2} : XFr F A F A := ⟨fun _ _ _ => rfl, fun _ _ _ _ _ => rfl, fun _ _ => ⟨rfl, rfl⟩⟩
theorem XFr.trans {F A F1 A1 F2 A2 : Fn2} (h : XFr F A F1 A1) (h' : XFr F1 A1 F2 A2) : XFr F A F2 A2 := ⟨fun a f x => (h'.1 a f x).trans (h.1 a f x), fun a x y z w => (h'.2.1 a x y z w).trans (h.2.1 a x y z w), fun i x => ⟨(h'.2.2 i x).1.trans (h.2.2 i x).1, (h'.2.2 i x).2.trans (h.2.2 i x).2⟩⟩
theorem FX4.xf {F A F' : Fn2} (h : FX4 F F') : XFr F A F' A := ⟨fun a f x => h a f (by omega), fun _ _ _ _ _ => rfl, fun _ _ => ⟨rfl, rfl⟩⟩
theorem XFr.f {F A F' : Fn2} {i v : Int} (h : F' = st2 F 373 i v) (hi : 37 ≤ i ∧ i ≤ 40) : XFr F A F' A := ⟨fun a f x => st373 h a f (by omega), fun _ _ _ _ _ => rfl, fun _ _ => ⟨rfl, rfl⟩⟩
theorem TxX.xf {g : Int → Int} {n : Int} {F A F' A' R : Fn2} (h : TxX g n A R) (x : XFr F A F' A') : TxX g n A' R := by
  obtain ⟨t1, t2, t3⟩ := h
  exact ⟨t1, t2, fun i a b => by rw [x.2.1 375 (by decide) (by decide) (by decide) (by decide)]; exact t3 i a b⟩
theorem XPl.e {s : Pl} {F A F' : Fn2} (h : XPl s F A) (h1 : F' 373 40 = F 373 40) (h2 : F' 373 39 = F 373 39) : XPl s F' A := ⟨by rw [h1]; exact h.1, by rw [h2]; exact h.2.1, h.2.2⟩
theorem XCd.e {cs : List Int} {u : Int} {F A F' : Fn2} (h : XCd cs u F A) (h1 : F' 373 37 = F 373 37) (h2 : F' 373 38 = F 373 38) : XCd cs u F' A := ⟨by rw [h1]; exact h.1, by rw [h2]; exact h.2.1, h.2.2⟩
theorem x_put {X : Int × (Int → Int)} {k : Nat} {Q : Vv → Fn2 → Fn2 → Fn2 → Prop} {F A R : Fn2} {s : Pl} {w c x : Int} (hR : RS R) (h40 : F 373 40 = s.length) (hP : PR A s) (hl : s.length < 60) (hc : w ≤ 6 → rop c x 0) (hq : ∀ F' A', F' = st2 F 373 40 (s.length + 1) → PR A' ((w, c) :: s) → (∀ a, a ≠ 394 → a ≠ 395 → A' a = A a) → Q vN F' A' R) : Wp X (k + 1) m_X11_put [vA 373, vI w, vI x] F A R Q := by
  refine Wp.of [vA 373, vI w, vI x] rfl rfl rfl (b_X11_put_0 hR ?_)
  rw [h40]
  refine ⟨by omega, by omega, fun A1 hA1 A2 hA2 => ⟨by omega, fun F3 hF3 => hq F3 A2 hF3 ⟨?_, fun z => ?_, hP.e s (fun i a b => ?_)⟩ (fun a x y => by rw [hA2, st2_n y, hA1, st2_n x])⟩⟩
  · rw [hA2, st2_n (by decide), hA1, st2_s, u1_s]
  · rw [hA2, st2_s, u1_s]; exact hc z
  · rw [hA2, st2_n (by decide), st2_s, hA1, st2_s, u1_n (by omega), st2_n (by decide), u1_n (by omega)]; exact ⟨rfl, rfl⟩
theorem x_step {X : Int × (Int → Int)} {k : Nat} {Q : Vv → Fn2 → Fn2 → Fn2 → Prop} {F A R : Fn2} {cs : List Int} {u c x y : Int} (hR : RS R) (hC : XCd cs u F A) (hl : cs.length < 500) (hc : rop c x y) (hq : ∀ F' A', F' = st2 F 373 37 (cs.length + 1) → XCd (cs ++ [c]) u F' A' → (∀ a, a ≠ 392 → a ≠ 393 → A' a = A a) → (∀ i, i < 500 → A' 392 i = A 392 i ∧ A' 393 i = A 393 i) → Q vN F' A' R) : Wp X (k + 1) m_X11_step [vA 373, vI x, vI y] F A R Q := by
  obtain ⟨c1, c2, c3⟩ := hC
  refine Wp.of [vA 373, vI x, vI y] rfl rfl rfl (b_X11_step_0 hR ?_)
  rw [c1]
  refine ⟨by omega, by omega, by omega, fun A1 hA1 A2 hA2 => ⟨by omega, fun F3 hF3 => hq F3 A2 hF3 ⟨?_, ?_, ?_⟩ (fun a x y => by rw [hA2, st2_n y, hA1, st2_n x]) (fun i hi => ?_)⟩⟩
  · rw [hF3, st2_s, u1_s, List.length_append]; rfl
  · rw [hF3, st2_s, u1_n (by decide)]; exact c2
  · rw [rcr_app]
    refine ⟨rcr_e cs 0 (fun j a b => ?_) c3, ?_, trivial⟩
    · show A2 392 (500 + j) = _ ∧ A2 393 (500 + j) = _
      rw [hA2, st2_n (by decide), st2_s, hA1, st2_s, u1_n (by omega), st2_n (by decide), u1_n (by omega)]; exact ⟨rfl, rfl⟩
    · show rop c (A2 392 (500 + (0 + (cs.length : Int)))) (A2 393 (500 + (0 + (cs.length : Int))))
      rw [show (0 : Int) + (cs.length : Int) = cs.length by omega, hA2, st2_n (by decide), st2_s, u1_s, hA1, st2_s, u1_s]; exact hc
  · rw [hA2, st2_n (by decide), st2_s, hA1, st2_s, u1_n (by omega), st2_n (by decide), u1_n (by omega)]; exact ⟨rfl, rfl⟩
/-- the state of the reading: b whether an operand is wanted -/
def bI (b : Bool) : Int := if b then 1 else 0
def XEs (g : Int → Int) (n : Int) (b : Bool) (p : Int) (s : Pl) (cs : List Int) (u : Int) (F A : Fn2) : Prop := (TkX g n p F ∧ F 373 4 = 0 ∧ F 373 5 = -1 ∧ 0 ≤ p ∧ p ≤ n) ∧ XPl s F A ∧ XCd cs u F A ∧ okP s ∧ wth s ≤ 7 ∧ nn s ≤ u + bI b ∧ (cs.length : Int) + s.length ≤ p + 1 ∧ 0 ≤ u ∧ u ≤ 40
theorem XEs.len {g : Int → Int} {n : Int} {b : Bool} {p : Int} {s : Pl} {cs : List Int} {u : Int} {F A : Fn2} (h : XEs g n b p s cs u F A) : (s.length : Int) ≤ 48 := by
  obtain ⟨_, _, _, _, h5, h6, _, _, h9⟩ := h
  have a := nn_len s
  have c := nts_b s
  unfold bI at h6
  split at h6 <;> omega
theorem okP.pos {s : Pl} (h : okP s) : 1 ≤ s.length := by
  cases s with
  | nil => exact h.elim
  | cons x s => exact Nat.succ_le_succ (Nat.zero_le _)
theorem okP.top {A : Fn2} {s : Pl} (h : okP s) (hP : PR A s) : A 394 ((s.length : Int) - 1) = topW s ∧ 1 ≤ topW s ∧ topW s ≤ 8 := by
  cases s with
  | nil => exact h.elim
  | cons x s =>
    obtain ⟨w, c⟩ := x
    have e : ((((w, c) :: s : Pl).length : Nat) : Int) - 1 = s.length := by show ((s.length + 1 : Nat) : Int) - 1 = _; omega
    rw [e]
    have h' : w = 8 ∧ s = [] ∨ 1 ≤ w ∧ w ≤ 7 ∧ okP s := h
    refine ⟨hP.1, ?_⟩
    show 1 ≤ w ∧ w ≤ 8
    rcases h' with h' | h' <;> omega
theorem wth_b : ∀ s : Pl, 0 ≤ wth s := fun s => by have := nts_b s; omega
theorem nn_b : ∀ s : Pl, 0 ≤ nn s
  | [] => Int.le_refl 0
  | (w, _) :: s => by
    have := nn_b s
    show 0 ≤ (if w = 3 then 0 else 1) + nn s
    split <;> omega
